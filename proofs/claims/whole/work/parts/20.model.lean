def f_X12_no (a1 : Int32) (σ : Hp) : Option (Int32 × Hp) := ck (inb (-a1) 8 = true) (some (a1, (sI σ 45 (-a1).toNatClampNeg ((hI σ 45 (-a1).toNatClampNeg) + (1 : Int32)))))
set_option maxHeartbeats 4000000 in
set_option maxRecDepth 100000 in
theorem c_X12_no (l : Launch) (g : tG) (P : Nat → Nat) (σ : Hp) (a1 : Int32) (sz : Nat) {r : Int32} {τ : Hp} (h : f_X12_no a1 σ = some (r, τ)) : Met l yX12_no (Cond.code yX12_no cX12_no 2 (some .int) :: tblG) ({ frames := 0, cells := 0, slots := 0, locals := 0 }) (va_Pc [.ref (gL g 40), .int a1] (tPre g P σ sz)) (tQ (some (.int r)) (tPost g P τ (va_A (wC g P σ) sz)) (va_A (wC g P σ) sz)) 0 0 (va_A (wC g P σ) sz) := by
  refine T_start (B := fun A => tPost g P τ A) (by decide) (Nat.le_of_ble_eq_true rfl) ?_
  intro p e s m args below meth c ls0 A hx hb hml hr hown hlocks ht hnm hK hZ hA hB0 hl0
  suffices hmain : ∀ (H : Heap) (locs : List Loc) (ls : Array Slot), tB g P σ A s.heap H locs → lv_has ls 2 [(0, .ref (gL g 40)), (1, .int a1)] → WQ p l e { frames := 0, cells := 0, slots := 0, locals := 0 } s m args below meth c g P A (some (.int r)) τ H locs (F0 m 0 ls []) from hmain _ _ ls0 hB0 hl0
  intro H locs ls hB hl
  unfold f_X12_no at h
  refine lv_aload_n hx hb dX12_no_0 rfl (lv_at hl 0 rfl) ?_
  refine R_get (v := .ref (gL g 45)) hx hb ht ui_X12 hown hK hB (by decide) (cell_8 rfl) rfl 5 (by decide) (ht _ tw921) (fun _ h9 => h9) rfl dX12_no_1 ?_
  refine lv_iload_n hx hb dX12_no_4 rfl (lv_at hl 1 rfl) ?_
  refine lv_ineg hx hb dX12_no_5 ?_
  refine lv_dup2_11 hx hb dX12_no_6 rfl rfl ?_
  replace h := ck_eq h; obtain ⟨q_1, h⟩ := h
  refine R_iald hx hb hK hB rfl (inb_eq q_1) dX12_no_7 ?_
  refine lv_iconst (v := 1) hx hb dX12_no_8 (by decide) ?_
  refine lv_iadd hx hb dX12_no_9 ?_
  refine R_iast hx hb hK hB rfl (inb_eq q_1) dX12_no_10 (fun H locs hB => ?_)
  refine lv_iload_n hx hb dX12_no_11 rfl (lv_at hl 1 rfl) ?_
  obtain ⟨rfl, rfl⟩ := Prod.mk.inj (Option.some.inj h)
  exact W.iret hx hb hr (R_end hB) hB.2.2.2.2 dX12_no_12
def f_X12_noTen (a1 : Int32) (σ : Hp) : Option (Int32 × Hp) := ck (inb (-a1) 8 = true) (some ((a1 - (10 : Int32)), (sI σ 45 (-a1).toNatClampNeg ((hI σ 45 (-a1).toNatClampNeg) + (1 : Int32)))))
set_option maxHeartbeats 4000000 in
set_option maxRecDepth 100000 in
theorem c_X12_noTen (l : Launch) (g : tG) (P : Nat → Nat) (σ : Hp) (a1 : Int32) (sz : Nat) {r : Int32} {τ : Hp} (h : f_X12_noTen a1 σ = some (r, τ)) : Met l yX12_noTen (Cond.code yX12_noTen cX12_noTen 2 (some .int) :: tblG) ({ frames := 0, cells := 0, slots := 0, locals := 0 }) (va_Pc [.ref (gL g 40), .int a1] (tPre g P σ sz)) (tQ (some (.int r)) (tPost g P τ (va_A (wC g P σ) sz)) (va_A (wC g P σ) sz)) 0 0 (va_A (wC g P σ) sz) := by
  refine T_start (B := fun A => tPost g P τ A) (by decide) (Nat.le_of_ble_eq_true rfl) ?_
  intro p e s m args below meth c ls0 A hx hb hml hr hown hlocks ht hnm hK hZ hA hB0 hl0
  suffices hmain : ∀ (H : Heap) (locs : List Loc) (ls : Array Slot), tB g P σ A s.heap H locs → lv_has ls 2 [(0, .ref (gL g 40)), (1, .int a1)] → WQ p l e { frames := 0, cells := 0, slots := 0, locals := 0 } s m args below meth c g P A (some (.int r)) τ H locs (F0 m 0 ls []) from hmain _ _ ls0 hB0 hl0
  intro H locs ls hB hl
  unfold f_X12_noTen at h
  refine lv_aload_n hx hb dX12_noTen_0 rfl (lv_at hl 0 rfl) ?_
  refine R_get (v := .ref (gL g 45)) hx hb ht ui_X12 hown hK hB (by decide) (cell_8 rfl) rfl 5 (by decide) (ht _ tw921) (fun _ h9 => h9) rfl dX12_noTen_1 ?_
  refine lv_iload_n hx hb dX12_noTen_4 rfl (lv_at hl 1 rfl) ?_
  refine lv_ineg hx hb dX12_noTen_5 ?_
  refine lv_dup2_11 hx hb dX12_noTen_6 rfl rfl ?_
  replace h := ck_eq h; obtain ⟨q_1, h⟩ := h
  refine R_iald hx hb hK hB rfl (inb_eq q_1) dX12_noTen_7 ?_
  refine lv_iconst (v := 1) hx hb dX12_noTen_8 (by decide) ?_
  refine lv_iadd hx hb dX12_noTen_9 ?_
  refine R_iast hx hb hK hB rfl (inb_eq q_1) dX12_noTen_10 (fun H locs hB => ?_)
  refine lv_iload_n hx hb dX12_noTen_11 rfl (lv_at hl 1 rfl) ?_
  refine lv_bipush (v := 10) hx hb dX12_noTen_12 (by decide) ?_
  refine lv_isub hx hb dX12_noTen_14 ?_
  obtain ⟨rfl, rfl⟩ := Prod.mk.inj (Option.some.inj h)
  exact W.iret hx hb hr (R_end hB) hB.2.2.2.2 dX12_noTen_15
def f_X12_isShelf (a1 : Int32) (σ : Hp) : Option (Int32 × Hp) := if a1 < 0 then some ((0 : Int32), σ) else if (8 : Int32) ≤ a1 then some ((0 : Int32), σ) else some ((1 : Int32), σ)
set_option maxHeartbeats 4000000 in
set_option maxRecDepth 100000 in
theorem c_X12_isShelf (l : Launch) (g : tG) (P : Nat → Nat) (σ : Hp) (a1 : Int32) (sz : Nat) {r : Int32} {τ : Hp} (h : f_X12_isShelf a1 σ = some (r, τ)) : Met l yX12_isShelf (Cond.code yX12_isShelf cX12_isShelf 2 (some .boolean) :: tblG) ({ frames := 0, cells := 0, slots := 0, locals := 0 }) (va_Pc [.ref (gL g 40), .int a1] (tPre g P σ sz)) (tQ (some (.int r)) (tPost g P τ (va_A (wC g P σ) sz)) (va_A (wC g P σ) sz)) 0 0 (va_A (wC g P σ) sz) := by
  refine T_start (B := fun A => tPost g P τ A) (by decide) (Nat.le_of_ble_eq_true rfl) ?_
  intro p e s m args below meth c ls0 A hx hb hml hr hown hlocks ht hnm hK hZ hA hB0 hl0
  suffices hmain : ∀ (H : Heap) (locs : List Loc) (ls : Array Slot), tB g P σ A s.heap H locs → lv_has ls 2 [(0, .ref (gL g 40)), (1, .int a1)] → WQ p l e { frames := 0, cells := 0, slots := 0, locals := 0 } s m args below meth c g P A (some (.int r)) τ H locs (F0 m 0 ls []) from hmain _ _ ls0 hB0 hl0
  intro H locs ls hB hl
  unfold f_X12_isShelf at h
  refine lv_iload_n hx hb dX12_isShelf_0 rfl (lv_at hl 1 rfl) ?_
  refine lv_if_lt (tgt := 14) hx hb dX12_isShelf_1 (by decide) (fun c_1 => ?_) (fun c_1 => ?_)
  · replace h := itp h c_1
    refine lv_iconst (v := 0) hx hb dX12_isShelf_14 (by decide) ?_
    obtain ⟨rfl, rfl⟩ := Prod.mk.inj (Option.some.inj h)
    exact W.zret hx hb hr rfl (R_end hB) hB.2.2.2.2 dX12_isShelf_15
  · replace h := itn h c_1
    refine lv_iload_n hx hb dX12_isShelf_4 rfl (lv_at hl 1 rfl) ?_
    refine lv_bipush (v := 8) hx hb dX12_isShelf_5 (by decide) ?_
    refine lv_icmp_ge (tgt := 14) hx hb dX12_isShelf_7 (by decide) (fun c_2 => ?_) (fun c_2 => ?_)
    · replace h := itp h c_2
      refine lv_iconst (v := 0) hx hb dX12_isShelf_14 (by decide) ?_
      obtain ⟨rfl, rfl⟩ := Prod.mk.inj (Option.some.inj h)
      exact W.zret hx hb hr rfl (R_end hB) hB.2.2.2.2 dX12_isShelf_15
    · replace h := itn h c_2
      refine lv_iconst (v := 1) hx hb dX12_isShelf_10 (by decide) ?_
      refine lv_goto (tgt := 15) hx hb dX12_isShelf_11 (by decide) ?_
      obtain ⟨rfl, rfl⟩ := Prod.mk.inj (Option.some.inj h)
      exact W.zret hx hb hr rfl (R_end hB) hB.2.2.2.2 dX12_isShelf_15
def f_X12_isLaw (a1 : Int32) (σ : Hp) : Option (Int32 × Hp) := if a1 < 0 then some ((0 : Int32), σ) else if (hI σ 40 0) ≤ a1 then some ((0 : Int32), σ) else some ((1 : Int32), σ)
set_option maxHeartbeats 4000000 in
set_option maxRecDepth 100000 in
theorem c_X12_isLaw (l : Launch) (g : tG) (P : Nat → Nat) (σ : Hp) (a1 : Int32) (sz : Nat) {r : Int32} {τ : Hp} (h : f_X12_isLaw a1 σ = some (r, τ)) : Met l yX12_isLaw (Cond.code yX12_isLaw cX12_isLaw 2 (some .boolean) :: tblG) ({ frames := 0, cells := 0, slots := 0, locals := 0 }) (va_Pc [.ref (gL g 40), .int a1] (tPre g P σ sz)) (tQ (some (.int r)) (tPost g P τ (va_A (wC g P σ) sz)) (va_A (wC g P σ) sz)) 0 0 (va_A (wC g P σ) sz) := by
  refine T_start (B := fun A => tPost g P τ A) (by decide) (Nat.le_of_ble_eq_true rfl) ?_
  intro p e s m args below meth c ls0 A hx hb hml hr hown hlocks ht hnm hK hZ hA hB0 hl0
  suffices hmain : ∀ (H : Heap) (locs : List Loc) (ls : Array Slot), tB g P σ A s.heap H locs → lv_has ls 2 [(0, .ref (gL g 40)), (1, .int a1)] → WQ p l e { frames := 0, cells := 0, slots := 0, locals := 0 } s m args below meth c g P A (some (.int r)) τ H locs (F0 m 0 ls []) from hmain _ _ ls0 hB0 hl0
  intro H locs ls hB hl
  unfold f_X12_isLaw at h
  refine lv_iload_n hx hb dX12_isLaw_0 rfl (lv_at hl 1 rfl) ?_
  refine lv_if_lt (tgt := 16) hx hb dX12_isLaw_1 (by decide) (fun c_1 => ?_) (fun c_1 => ?_)
  · replace h := itp h c_1
    refine lv_iconst (v := 0) hx hb dX12_isLaw_16 (by decide) ?_
    obtain ⟨rfl, rfl⟩ := Prod.mk.inj (Option.some.inj h)
    exact W.zret hx hb hr rfl (R_end hB) hB.2.2.2.2 dX12_isLaw_17
  · replace h := itn h c_1
    refine lv_iload_n hx hb dX12_isLaw_4 rfl (lv_at hl 1 rfl) ?_
    refine lv_aload_n hx hb dX12_isLaw_5 rfl (lv_at hl 0 rfl) ?_
    refine R_get (v := .int (hI σ 40 0)) hx hb ht ui_X12 hown hK hB (by decide) (cell_8 rfl) rfl 0 (by decide) (ht _ tw916) (fun _ h9 => h9) rfl dX12_isLaw_6 ?_
    refine lv_icmp_ge (tgt := 16) hx hb dX12_isLaw_9 (by decide) (fun c_2 => ?_) (fun c_2 => ?_)
    · replace h := itp h c_2
      refine lv_iconst (v := 0) hx hb dX12_isLaw_16 (by decide) ?_
      obtain ⟨rfl, rfl⟩ := Prod.mk.inj (Option.some.inj h)
      exact W.zret hx hb hr rfl (R_end hB) hB.2.2.2.2 dX12_isLaw_17
    · replace h := itn h c_2
      refine lv_iconst (v := 1) hx hb dX12_isLaw_12 (by decide) ?_
      refine lv_goto (tgt := 17) hx hb dX12_isLaw_13 (by decide) ?_
      obtain ⟨rfl, rfl⟩ := Prod.mk.inj (Option.some.inj h)
      exact W.zret hx hb hr rfl (R_end hB) hB.2.2.2.2 dX12_isLaw_17
def f_X12_isNumber (a1 : Int64) (σ : Hp) : Option (Int32 × Hp) := if (lg_cmp a1 (0 : Int64)) < 0 then some ((0 : Int32), σ) else if 0 < (lg_cmp a1 (999999999999999 : Int64)) then some ((0 : Int32), σ) else some ((1 : Int32), σ)
set_option maxHeartbeats 4000000 in
set_option maxRecDepth 100000 in
theorem c_X12_isNumber (l : Launch) (g : tG) (P : Nat → Nat) (σ : Hp) (a1 : Int64) (sz : Nat) {r : Int32} {τ : Hp} (h : f_X12_isNumber a1 σ = some (r, τ)) : Met l yX12_isNumber (Cond.code yX12_isNumber cX12_isNumber 3 (some .boolean) :: tblG) ({ frames := 0, cells := 0, slots := 0, locals := 0 }) (va_Pc [.ref (gL g 40), .long a1] (tPre g P σ sz)) (tQ (some (.int r)) (tPost g P τ (va_A (wC g P σ) sz)) (va_A (wC g P σ) sz)) 0 0 (va_A (wC g P σ) sz) := by
  refine T_start (B := fun A => tPost g P τ A) (by decide) (Nat.le_of_ble_eq_true rfl) ?_
  intro p e s m args below meth c ls0 A hx hb hml hr hown hlocks ht hnm hK hZ hA hB0 hl0
  suffices hmain : ∀ (H : Heap) (locs : List Loc) (ls : Array Slot), tB g P σ A s.heap H locs → lv_has ls 3 [(0, .ref (gL g 40)), (1, .long a1)] → WQ p l e { frames := 0, cells := 0, slots := 0, locals := 0 } s m args below meth c g P A (some (.int r)) τ H locs (F0 m 0 ls []) from hmain _ _ ls0 hB0 hl0
  intro H locs ls hB hl
  unfold f_X12_isNumber at h
  refine lv_lload_n hx hb dX12_isNumber_0 rfl (lv_at hl 1 rfl) ?_
  refine lv_lconst (v := 0) hx hb dX12_isNumber_1 (by decide) ?_
  refine W.lcmp hx hb dX12_isNumber_2 ?_
  refine lv_if_lt (tgt := 18) hx hb dX12_isNumber_3 (by decide) (fun c_1 => ?_) (fun c_1 => ?_)
  · replace h := itp h c_1
    refine lv_iconst (v := 0) hx hb dX12_isNumber_18 (by decide) ?_
    obtain ⟨rfl, rfl⟩ := Prod.mk.inj (Option.some.inj h)
    exact W.zret hx hb hr rfl (R_end hB) hB.2.2.2.2 dX12_isNumber_19
  · replace h := itn h c_1
    refine lv_lload_n hx hb dX12_isNumber_6 rfl (lv_at hl 1 rfl) ?_
    refine lv_ldc2 (v := 999999999999999) hx hb hown (ht _ tw1088) dX12_isNumber_7 ?_
    refine W.lcmp hx hb dX12_isNumber_10 ?_
    refine lv_if_gt (tgt := 18) hx hb dX12_isNumber_11 (by decide) (fun c_2 => ?_) (fun c_2 => ?_)
    · replace h := itp h c_2
      refine lv_iconst (v := 0) hx hb dX12_isNumber_18 (by decide) ?_
      obtain ⟨rfl, rfl⟩ := Prod.mk.inj (Option.some.inj h)
      exact W.zret hx hb hr rfl (R_end hB) hB.2.2.2.2 dX12_isNumber_19
    · replace h := itn h c_2
      refine lv_iconst (v := 1) hx hb dX12_isNumber_14 (by decide) ?_
      refine lv_goto (tgt := 19) hx hb dX12_isNumber_15 (by decide) ?_
      obtain ⟨rfl, rfl⟩ := Prod.mk.inj (Option.some.inj h)
      exact W.zret hx hb hr rfl (R_end hB) hB.2.2.2.2 dX12_isNumber_19
def f_X12_row_b34 (σ1 : Hp) : Option (Int32 × Hp) := b2 (f_X12_no (-6 : Int32) σ1) (fun r_7 s_8 => some (r_7, s_8))
def f_X12_row_t79 (x1 : Int32) (x4 : Int32) (σ1 : Hp) : Option ((Int32 × Hp) ⊕ (Int32 × Hp)) := if (160 : Int32) ≤ x4 then ex (some ((1 : Int32), σ1)) else ck (inb (((160 : Int32) * x1) + x4) 1280 = true) (some (.inl ((x4 + 1), (sJ σ1 54 (((160 : Int32) * x1) + x4).toNatClampNeg (0 : Int64)))))
def f_X12_row_s79 (x1 : Int32) (v : (Int32 × Hp)) : Option ((Int32 × Hp) ⊕ (Int32 × Hp)) := f_X12_row_t79 x1 v.1 v.2
def f_X12_row (a1 : Int32) (a2 : Int32) (a3 : Int32) (σ : Hp) : Option (Int32 × Hp) := b2 (f_X12_isShelf a1 σ) (fun r_1 s_2 => if r_1 = 0 then b2 (f_X12_no (-1 : Int32) s_2) (fun r_21 s_22 => some (r_21, s_22)) else if 0 ≤ a3 then if a2 < 0 then f_X12_row_b34 s_2 else if a2 ≤ (3 : Int32) then if a3 ≤ (160 : Int32) then ck (inb a1 8 = true) (iter (f_X12_row_s79 a1) fuel ((0 : Int32), (sI (sI (sI s_2 50 a1.toNatClampNeg (1 : Int32)) 51 a1.toNatClampNeg a2) 52 a1.toNatClampNeg a3))) else b2 (f_X12_no (-7 : Int32) s_2) (fun r_15 s_16 => some (r_15, s_16)) else f_X12_row_b34 s_2 else b2 (f_X12_no (-4 : Int32) s_2) (fun r_18 s_19 => some (r_18, s_19)))
set_option maxHeartbeats 4000000 in
set_option maxRecDepth 100000 in
theorem c_X12_row (l : Launch) (g : tG) (P : Nat → Nat) (σ : Hp) (a1 : Int32) (a2 : Int32) (a3 : Int32) (sz : Nat) {r : Int32} {τ : Hp} (h : f_X12_row a1 a2 a3 σ = some (r, τ)) : Met l yX12_row (Cond.code yX12_row cX12_row 5 (some .int) :: tblG) ({ frames := 1, cells := 0, slots := 0, locals := 21 }) (va_Pc [.ref (gL g 40), .int a1, .int a2, .int a3] (tPre g P σ sz)) (tQ (some (.int r)) (tPost g P τ (va_A (wC g P σ) sz)) (va_A (wC g P σ) sz)) 0 0 (va_A (wC g P σ) sz) := by
  refine T_start (B := fun A => tPost g P τ A) (by decide) (Nat.le_of_ble_eq_true rfl) ?_
  intro p e s m args below meth c ls0 A hx hb hml hr hown hlocks ht hnm hK hZ hA hB0 hl0
  have hb_34 : ∀ (σ1 : Hp) (H : Heap) (locs : List Loc) (ls : Array Slot), f_X12_row_b34 σ1 = some (r, τ) → tB g P σ1 A s.heap H locs → lv_has ls 5 [(0, .ref (gL g 40))] → WQ p l e { frames := 1, cells := 0, slots := 0, locals := 21 } s m args below meth c g P A (some (.int r)) τ H locs (F0 m 34 ls []) := by
    intro σ1 H locs ls h hB hl
    unfold f_X12_row_b34 at h
    refine lv_aload_n hx hb dX12_row_34 rfl (lv_at hl 0 rfl) ?_
    refine lv_bipush (v := -6) hx hb dX12_row_35 (by decide) ?_
    replace h := b2_eq h; obtain ⟨r_7, s_8, hc_9, h⟩ := h
    refine R_call (rest := []) [.int r_7] (R_runV (n := 1) (As := [.int (-6 : Int32)]) ⟨hx, hb, hml, hown, ht⟩ (fun _ h9 => h9) hK hZ hA hB (c_X12_no l g P σ1 (-6 : Int32) H.size hc_9) (R_recv hK hB (by decide) (cell_8 rfl) rfl) tw1042 tw1039 tw1041 pw26 tw5 ⟨by decide, by decide, by decide⟩ rfl rfl ⟨Nat.le_of_ble_eq_true rfl, Nat.le_of_ble_eq_true rfl⟩ rfl hl.1 rfl (Nat.le_of_ble_eq_true rfl) dX12_row_37 ⟨Nat.zero_le _, Nat.zero_le _⟩) hB hA rfl (fun H locs hB => ?_)
    obtain ⟨rfl, rfl⟩ := Prod.mk.inj (Option.some.inj h)
    exact W.iret hx hb hr (R_end hB) hB.2.2.2.2 dX12_row_40
  have hL_79 : ∀ (x1 : Int32) (n : Nat) (x4 : Int32) (σ1 : Hp) (H : Heap) (locs : List Loc) (ls : Array Slot), iter (f_X12_row_s79 x1) n (x4, σ1) = some (r, τ) → tB g P σ1 A s.heap H locs → lv_has ls 5 [(0, .ref (gL g 40)), (1, .int x1), (4, .int x4)] → WQ p l e { frames := 1, cells := 0, slots := 0, locals := 21 } s m args below meth c g P A (some (.int r)) τ H locs (F0 m 79 ls []) := by
    intro x1 n
    induction n with
    | zero =>
      intro x4 σ1 H locs ls h hB hl
      exact (iter_0 h).elim
    | succ n ih1 =>
      intro x4 σ1 H locs ls h hB hl
      replace h := iter_eq h; obtain ⟨z1, hh1, hx1⟩ := h
      have h : f_X12_row_t79 x1 x4 σ1 = some z1 := hh1
      clear hh1
      unfold f_X12_row_t79 at h
      refine lv_iload hx hb dX12_row_79 (lv_at hl 2 rfl) ?_
      refine lv_sipush (v := 160) hx hb dX12_row_81 (by decide) ?_
      refine lv_icmp_ge (tgt := 107) hx hb dX12_row_84 (by decide) (fun c_13 => ?_) (fun c_13 => ?_)
      · replace h := itp h c_13
        replace h := ex_eq h; obtain ⟨b1, h, hz1⟩ := h
        subst hz1
        have hz1 := (itk_inr hx1).symm
        subst hz1
        refine lv_iconst (v := 1) hx hb dX12_row_107 (by decide) ?_
        obtain ⟨rfl, rfl⟩ := Prod.mk.inj (Option.some.inj h)
        exact W.iret hx hb hr (R_end hB) hB.2.2.2.2 dX12_row_108
      · replace h := itn h c_13
        refine lv_aload_n hx hb dX12_row_87 rfl (lv_at hl 0 rfl) ?_
        refine R_get (v := .ref (gL g 54)) hx hb ht ui_X12 hown hK hB (by decide) (cell_8 rfl) rfl 14 (by decide) (ht _ tw930) (fun _ h9 => h9) rfl dX12_row_88 ?_
        refine lv_sipush (v := 160) hx hb dX12_row_91 (by decide) ?_
        refine lv_iload_n hx hb dX12_row_94 rfl (lv_at hl 1 rfl) ?_
        refine lv_imul hx hb dX12_row_95 ?_
        refine lv_iload hx hb dX12_row_96 (lv_at hl 2 rfl) ?_
        refine lv_iadd hx hb dX12_row_98 ?_
        refine lv_lconst (v := 0) hx hb dX12_row_99 (by decide) ?_
        replace h := ck_eq h; obtain ⟨q_14, h⟩ := h
        refine R_last hx hb hK hB rfl (inb_eq q_14) dX12_row_100 (fun H locs hB => ?_)
        refine lv_iinc (v := x4 + 1) (lv' := [(4, .int (x4 + 1)), (0, .ref (gL g 40)), (1, .int x1)]) hx hb dX12_row_101 hl (k := 2) rfl rfl (by decide) rfl (fun ls hl => ?_)
        refine lv_goto (tgt := 79) hx hb dX12_row_104 (by decide) ?_
        obtain rfl := Option.some.inj h
        exact ih1 (x4 + 1) (sJ σ1 54 (((160 : Int32) * x1) + x4).toNatClampNeg (0 : Int64)) H locs ls hx1 hB (lv_sub hl [1, 2, 0] rfl)
  suffices hmain : ∀ (H : Heap) (locs : List Loc) (ls : Array Slot), tB g P σ A s.heap H locs → lv_has ls 5 [(0, .ref (gL g 40)), (1, .int a1), (2, .int a2), (3, .int a3)] → WQ p l e { frames := 1, cells := 0, slots := 0, locals := 21 } s m args below meth c g P A (some (.int r)) τ H locs (F0 m 0 ls []) from hmain _ _ ls0 hB0 hl0
  intro H locs ls hB hl
  unfold f_X12_row at h
  refine lv_aload_n hx hb dX12_row_0 rfl (lv_at hl 0 rfl) ?_
  refine lv_iload_n hx hb dX12_row_1 rfl (lv_at hl 1 rfl) ?_
  replace h := b2_eq h; obtain ⟨r_1, s_2, hc_3, h⟩ := h
  refine R_call (rest := []) [.int r_1] (R_runV (n := 1) (As := [.int a1]) ⟨hx, hb, hml, hown, ht⟩ (fun _ h9 => h9) hK hZ hA hB (c_X12_isShelf l g P σ a1 H.size hc_3) (R_recv hK hB (by decide) (cell_8 rfl) rfl) tw1038 tw1035 tw1037 pw25 tw5 ⟨by decide, by decide, by decide⟩ rfl rfl ⟨Nat.le_of_ble_eq_true rfl, Nat.le_of_ble_eq_true rfl⟩ rfl hl.1 rfl (Nat.le_of_ble_eq_true rfl) dX12_row_2 ⟨Nat.zero_le _, Nat.zero_le _⟩) hB hA rfl (fun H locs hB => ?_)
  refine lv_if_ne (tgt := 14) hx hb dX12_row_5 (by decide) (fun c_4 => ?_) (fun c_4 => ?_)
  · replace h := itn h c_4
    refine lv_iload_n hx hb dX12_row_14 rfl (lv_at hl 3 rfl) ?_
    refine lv_if_ge (tgt := 25) hx hb dX12_row_15 (by decide) (fun c_5 => ?_) (fun c_5 => ?_)
    · replace h := itp h c_5
      refine lv_iload_n hx hb dX12_row_25 rfl (lv_at hl 2 rfl) ?_
      refine lv_if_lt (tgt := 34) hx hb dX12_row_26 (by decide) (fun c_6 => ?_) (fun c_6 => ?_)
      · replace h := itp h c_6
        exact hb_34 s_2 H locs ls h hB (lv_sub hl [0] rfl)
      · replace h := itn h c_6
        refine lv_iload_n hx hb dX12_row_29 rfl (lv_at hl 2 rfl) ?_
        refine lv_iconst (v := 3) hx hb dX12_row_30 (by decide) ?_
        refine lv_icmp_le (tgt := 41) hx hb dX12_row_31 (by decide) (fun c_10 => ?_) (fun c_10 => ?_)
        · replace h := itp h c_10
          refine lv_iload_n hx hb dX12_row_41 rfl (lv_at hl 3 rfl) ?_
          refine lv_sipush (v := 160) hx hb dX12_row_42 (by decide) ?_
          refine lv_icmp_le (tgt := 55) hx hb dX12_row_45 (by decide) (fun c_11 => ?_) (fun c_11 => ?_)
          · replace h := itp h c_11
            refine lv_aload_n hx hb dX12_row_55 rfl (lv_at hl 0 rfl) ?_
            refine R_get (v := .ref (gL g 50)) hx hb ht ui_X12 hown hK hB (by decide) (cell_8 rfl) rfl 10 (by decide) (ht _ tw926) (fun _ h9 => h9) rfl dX12_row_56 ?_
            refine lv_iload_n hx hb dX12_row_59 rfl (lv_at hl 1 rfl) ?_
            refine lv_iconst (v := 1) hx hb dX12_row_60 (by decide) ?_
            replace h := ck_eq h; obtain ⟨q_12, h⟩ := h
            refine R_iast hx hb hK hB rfl (inb_eq q_12) dX12_row_61 (fun H locs hB => ?_)
            refine lv_aload_n hx hb dX12_row_62 rfl (lv_at hl 0 rfl) ?_
            refine R_get (v := .ref (gL g 51)) hx hb ht ui_X12 hown hK hB (by decide) (cell_8 rfl) rfl 11 (by decide) (ht _ tw927) (fun _ h9 => h9) rfl dX12_row_63 ?_
            refine lv_iload_n hx hb dX12_row_66 rfl (lv_at hl 1 rfl) ?_
            refine lv_iload_n hx hb dX12_row_67 rfl (lv_at hl 2 rfl) ?_
            refine R_iast hx hb hK hB rfl (inb_eq q_12) dX12_row_68 (fun H locs hB => ?_)
            refine lv_aload_n hx hb dX12_row_69 rfl (lv_at hl 0 rfl) ?_
            refine R_get (v := .ref (gL g 52)) hx hb ht ui_X12 hown hK hB (by decide) (cell_8 rfl) rfl 12 (by decide) (ht _ tw928) (fun _ h9 => h9) rfl dX12_row_70 ?_
            refine lv_iload_n hx hb dX12_row_73 rfl (lv_at hl 1 rfl) ?_
            refine lv_iload_n hx hb dX12_row_74 rfl (lv_at hl 3 rfl) ?_
            refine R_iast hx hb hK hB rfl (inb_eq q_12) dX12_row_75 (fun H locs hB => ?_)
            refine lv_iconst (v := 0) hx hb dX12_row_76 (by decide) ?_
            refine lv_istore (lv' := [(4, .int (0 : Int32)), (0, .ref (gL g 40)), (1, .int a1), (2, .int a2), (3, .int a3)]) hx hb dX12_row_77 hl (by decide) rfl (fun ls hl => ?_)
            exact hL_79 a1 fuel (0 : Int32) (sI (sI (sI s_2 50 a1.toNatClampNeg (1 : Int32)) 51 a1.toNatClampNeg a2) 52 a1.toNatClampNeg a3) H locs ls h hB (lv_sub hl [1, 2, 0] rfl)
          · replace h := itn h c_11
            refine lv_aload_n hx hb dX12_row_48 rfl (lv_at hl 0 rfl) ?_
            refine lv_bipush (v := -7) hx hb dX12_row_49 (by decide) ?_
            replace h := b2_eq h; obtain ⟨r_15, s_16, hc_17, h⟩ := h
            refine R_call (rest := []) [.int r_15] (R_runV (n := 1) (As := [.int (-7 : Int32)]) ⟨hx, hb, hml, hown, ht⟩ (fun _ h9 => h9) hK hZ hA hB (c_X12_no l g P s_2 (-7 : Int32) H.size hc_17) (R_recv hK hB (by decide) (cell_8 rfl) rfl) tw1042 tw1039 tw1041 pw26 tw5 ⟨by decide, by decide, by decide⟩ rfl rfl ⟨Nat.le_of_ble_eq_true rfl, Nat.le_of_ble_eq_true rfl⟩ rfl hl.1 rfl (Nat.le_of_ble_eq_true rfl) dX12_row_51 ⟨Nat.zero_le _, Nat.zero_le _⟩) hB hA rfl (fun H locs hB => ?_)
            obtain ⟨rfl, rfl⟩ := Prod.mk.inj (Option.some.inj h)
            exact W.iret hx hb hr (R_end hB) hB.2.2.2.2 dX12_row_54
        · replace h := itn h c_10
          exact hb_34 s_2 H locs ls h hB (lv_sub hl [0] rfl)
    · replace h := itn h c_5
      refine lv_aload_n hx hb dX12_row_18 rfl (lv_at hl 0 rfl) ?_
      refine lv_bipush (v := -4) hx hb dX12_row_19 (by decide) ?_
      replace h := b2_eq h; obtain ⟨r_18, s_19, hc_20, h⟩ := h
      refine R_call (rest := []) [.int r_18] (R_runV (n := 1) (As := [.int (-4 : Int32)]) ⟨hx, hb, hml, hown, ht⟩ (fun _ h9 => h9) hK hZ hA hB (c_X12_no l g P s_2 (-4 : Int32) H.size hc_20) (R_recv hK hB (by decide) (cell_8 rfl) rfl) tw1042 tw1039 tw1041 pw26 tw5 ⟨by decide, by decide, by decide⟩ rfl rfl ⟨Nat.le_of_ble_eq_true rfl, Nat.le_of_ble_eq_true rfl⟩ rfl hl.1 rfl (Nat.le_of_ble_eq_true rfl) dX12_row_21 ⟨Nat.zero_le _, Nat.zero_le _⟩) hB hA rfl (fun H locs hB => ?_)
      obtain ⟨rfl, rfl⟩ := Prod.mk.inj (Option.some.inj h)
      exact W.iret hx hb hr (R_end hB) hB.2.2.2.2 dX12_row_24
  · replace h := itp h c_4
    refine lv_aload_n hx hb dX12_row_8 rfl (lv_at hl 0 rfl) ?_
    refine lv_iconst (v := -1) hx hb dX12_row_9 (by decide) ?_
    replace h := b2_eq h; obtain ⟨r_21, s_22, hc_23, h⟩ := h
    refine R_call (rest := []) [.int r_21] (R_runV (n := 1) (As := [.int (-1 : Int32)]) ⟨hx, hb, hml, hown, ht⟩ (fun _ h9 => h9) hK hZ hA hB (c_X12_no l g P s_2 (-1 : Int32) H.size hc_23) (R_recv hK hB (by decide) (cell_8 rfl) rfl) tw1042 tw1039 tw1041 pw26 tw5 ⟨by decide, by decide, by decide⟩ rfl rfl ⟨Nat.le_of_ble_eq_true rfl, Nat.le_of_ble_eq_true rfl⟩ rfl hl.1 rfl (Nat.le_of_ble_eq_true rfl) dX12_row_10 ⟨Nat.zero_le _, Nat.zero_le _⟩) hB hA rfl (fun H locs hB => ?_)
    obtain ⟨rfl, rfl⟩ := Prod.mk.inj (Option.some.inj h)
    exact W.iret hx hb hr (R_end hB) hB.2.2.2.2 dX12_row_13
def f_X12_set_b61 (σ1 : Hp) : Option (Int32 × Hp) := b2 (f_X12_no (-5 : Int32) σ1) (fun r_9 s_10 => some (r_9, s_10))
def f_X12_set (a1 : Int32) (a2 : Int32) (a3 : Int64) (σ : Hp) : Option (Int32 × Hp) := b2 (f_X12_isShelf a1 σ) (fun r_1 s_2 => if r_1 = 0 then b2 (f_X12_no (-1 : Int32) s_2) (fun r_26 s_27 => some (r_26, s_27)) else ck (inb a1 8 = true) (if (hI s_2 50 a1.toNatClampNeg) = (2 : Int32) then b2 (f_X12_no (-2 : Int32) s_2) (fun r_23 s_24 => some (r_23, s_24)) else if (hI s_2 50 a1.toNatClampNeg) = 0 then b2 (f_X12_no (-3 : Int32) s_2) (fun r_20 s_21 => some (r_20, s_21)) else if a2 < 0 then f_X12_set_b61 s_2 else if a2 < (hI s_2 52 a1.toNatClampNeg) then if (hI s_2 51 a1.toNatClampNeg) = 0 then ck (inb (((160 : Int32) * a1) + a2) 1280 = true) (some ((1 : Int32), (sJ s_2 54 (((160 : Int32) * a1) + a2).toNatClampNeg a3.toInt32.toInt8.toInt32.toInt64))) else if (hI s_2 51 a1.toNatClampNeg) = (1 : Int32) then ck (inb (((160 : Int32) * a1) + a2) 1280 = true) (some ((1 : Int32), (sJ s_2 54 (((160 : Int32) * a1) + a2).toNatClampNeg a3.toInt32.toInt16.toInt32.toInt64))) else if (hI s_2 51 a1.toNatClampNeg) = (2 : Int32) then ck (inb (((160 : Int32) * a1) + a2) 1280 = true) (some ((1 : Int32), (sJ s_2 54 (((160 : Int32) * a1) + a2).toNatClampNeg a3.toInt32.toInt64))) else ck (inb (((160 : Int32) * a1) + a2) 1280 = true) (some ((1 : Int32), (sJ s_2 54 (((160 : Int32) * a1) + a2).toNatClampNeg a3))) else f_X12_set_b61 s_2))
set_option maxHeartbeats 4000000 in
set_option maxRecDepth 100000 in
theorem c_X12_set (l : Launch) (g : tG) (P : Nat → Nat) (σ : Hp) (a1 : Int32) (a2 : Int32) (a3 : Int64) (sz : Nat) {r : Int32} {τ : Hp} (h : f_X12_set a1 a2 a3 σ = some (r, τ)) : Met l yX12_set (Cond.code yX12_set cX12_set 5 (some .int) :: tblG) ({ frames := 1, cells := 0, slots := 0, locals := 21 }) (va_Pc [.ref (gL g 40), .int a1, .int a2, .long a3] (tPre g P σ sz)) (tQ (some (.int r)) (tPost g P τ (va_A (wC g P σ) sz)) (va_A (wC g P σ) sz)) 0 0 (va_A (wC g P σ) sz) := by
  refine T_start (B := fun A => tPost g P τ A) (by decide) (Nat.le_of_ble_eq_true rfl) ?_
  intro p e s m args below meth c ls0 A hx hb hml hr hown hlocks ht hnm hK hZ hA hB0 hl0
  have hb_61 : ∀ (σ1 : Hp) (H : Heap) (locs : List Loc) (ls : Array Slot), f_X12_set_b61 σ1 = some (r, τ) → tB g P σ1 A s.heap H locs → lv_has ls 5 [(0, .ref (gL g 40))] → WQ p l e { frames := 1, cells := 0, slots := 0, locals := 21 } s m args below meth c g P A (some (.int r)) τ H locs (F0 m 61 ls []) := by
    intro σ1 H locs ls h hB hl
    unfold f_X12_set_b61 at h
    refine lv_aload_n hx hb dX12_set_61 rfl (lv_at hl 0 rfl) ?_
    refine lv_bipush (v := -5) hx hb dX12_set_62 (by decide) ?_
    replace h := b2_eq h; obtain ⟨r_9, s_10, hc_11, h⟩ := h
    refine R_call (rest := []) [.int r_9] (R_runV (n := 1) (As := [.int (-5 : Int32)]) ⟨hx, hb, hml, hown, ht⟩ (fun _ h9 => h9) hK hZ hA hB (c_X12_no l g P σ1 (-5 : Int32) H.size hc_11) (R_recv hK hB (by decide) (cell_8 rfl) rfl) tw1042 tw1039 tw1041 pw26 tw5 ⟨by decide, by decide, by decide⟩ rfl rfl ⟨Nat.le_of_ble_eq_true rfl, Nat.le_of_ble_eq_true rfl⟩ rfl hl.1 rfl (Nat.le_of_ble_eq_true rfl) dX12_set_64 ⟨Nat.zero_le _, Nat.zero_le _⟩) hB hA rfl (fun H locs hB => ?_)
    obtain ⟨rfl, rfl⟩ := Prod.mk.inj (Option.some.inj h)
    exact W.iret hx hb hr (R_end hB) hB.2.2.2.2 dX12_set_67
  suffices hmain : ∀ (H : Heap) (locs : List Loc) (ls : Array Slot), tB g P σ A s.heap H locs → lv_has ls 5 [(0, .ref (gL g 40)), (1, .int a1), (2, .int a2), (3, .long a3)] → WQ p l e { frames := 1, cells := 0, slots := 0, locals := 21 } s m args below meth c g P A (some (.int r)) τ H locs (F0 m 0 ls []) from hmain _ _ ls0 hB0 hl0
  intro H locs ls hB hl
  unfold f_X12_set at h
  refine lv_aload_n hx hb dX12_set_0 rfl (lv_at hl 0 rfl) ?_
  refine lv_iload_n hx hb dX12_set_1 rfl (lv_at hl 1 rfl) ?_
  replace h := b2_eq h; obtain ⟨r_1, s_2, hc_3, h⟩ := h
  refine R_call (rest := []) [.int r_1] (R_runV (n := 1) (As := [.int a1]) ⟨hx, hb, hml, hown, ht⟩ (fun _ h9 => h9) hK hZ hA hB (c_X12_isShelf l g P σ a1 H.size hc_3) (R_recv hK hB (by decide) (cell_8 rfl) rfl) tw1038 tw1035 tw1037 pw25 tw5 ⟨by decide, by decide, by decide⟩ rfl rfl ⟨Nat.le_of_ble_eq_true rfl, Nat.le_of_ble_eq_true rfl⟩ rfl hl.1 rfl (Nat.le_of_ble_eq_true rfl) dX12_set_2 ⟨Nat.zero_le _, Nat.zero_le _⟩) hB hA rfl (fun H locs hB => ?_)
  refine lv_if_ne (tgt := 14) hx hb dX12_set_5 (by decide) (fun c_4 => ?_) (fun c_4 => ?_)
  · replace h := itn h c_4
    refine lv_aload_n hx hb dX12_set_14 rfl (lv_at hl 0 rfl) ?_
    refine R_get (v := .ref (gL g 50)) hx hb ht ui_X12 hown hK hB (by decide) (cell_8 rfl) rfl 10 (by decide) (ht _ tw926) (fun _ h9 => h9) rfl dX12_set_15 ?_
    refine lv_iload_n hx hb dX12_set_18 rfl (lv_at hl 1 rfl) ?_
    replace h := ck_eq h; obtain ⟨q_5, h⟩ := h
    refine R_iald hx hb hK hB rfl (inb_eq q_5) dX12_set_19 ?_
    refine lv_iconst (v := 2) hx hb dX12_set_20 (by decide) ?_
    refine lv_icmp_ne (tgt := 31) hx hb dX12_set_21 (by decide) (fun c_6 => ?_) (fun c_6 => ?_)
    · replace h := itn h c_6
      refine lv_aload_n hx hb dX12_set_31 rfl (lv_at hl 0 rfl) ?_
      refine R_get (v := .ref (gL g 50)) hx hb ht ui_X12 hown hK hB (by decide) (cell_8 rfl) rfl 10 (by decide) (ht _ tw926) (fun _ h9 => h9) rfl dX12_set_32 ?_
      refine lv_iload_n hx hb dX12_set_35 rfl (lv_at hl 1 rfl) ?_
      refine R_iald hx hb hK hB rfl (inb_eq q_5) dX12_set_36 ?_
      refine lv_if_ne (tgt := 47) hx hb dX12_set_37 (by decide) (fun c_7 => ?_) (fun c_7 => ?_)
      · replace h := itn h c_7
        refine lv_iload_n hx hb dX12_set_47 rfl (lv_at hl 2 rfl) ?_
        refine lv_if_lt (tgt := 61) hx hb dX12_set_48 (by decide) (fun c_8 => ?_) (fun c_8 => ?_)
        · replace h := itp h c_8
          exact hb_61 s_2 H locs ls h hB (lv_sub hl [0] rfl)
        · replace h := itn h c_8
          refine lv_iload_n hx hb dX12_set_51 rfl (lv_at hl 2 rfl) ?_
          refine lv_aload_n hx hb dX12_set_52 rfl (lv_at hl 0 rfl) ?_
          refine R_get (v := .ref (gL g 52)) hx hb ht ui_X12 hown hK hB (by decide) (cell_8 rfl) rfl 12 (by decide) (ht _ tw928) (fun _ h9 => h9) rfl dX12_set_53 ?_
          refine lv_iload_n hx hb dX12_set_56 rfl (lv_at hl 1 rfl) ?_
          refine R_iald hx hb hK hB rfl (inb_eq q_5) dX12_set_57 ?_
          refine lv_icmp_lt (tgt := 68) hx hb dX12_set_58 (by decide) (fun c_12 => ?_) (fun c_12 => ?_)
          · replace h := itp h c_12
            refine lv_aload_n hx hb dX12_set_68 rfl (lv_at hl 0 rfl) ?_
            refine R_get (v := .ref (gL g 54)) hx hb ht ui_X12 hown hK hB (by decide) (cell_8 rfl) rfl 14 (by decide) (ht _ tw930) (fun _ h9 => h9) rfl dX12_set_69 ?_
            refine lv_sipush (v := 160) hx hb dX12_set_72 (by decide) ?_
            refine lv_iload_n hx hb dX12_set_75 rfl (lv_at hl 1 rfl) ?_
            refine lv_imul hx hb dX12_set_76 ?_
            refine lv_iload_n hx hb dX12_set_77 rfl (lv_at hl 2 rfl) ?_
            refine lv_iadd hx hb dX12_set_78 ?_
            refine lv_aload_n hx hb dX12_set_79 rfl (lv_at hl 0 rfl) ?_
            refine R_get (v := .ref (gL g 51)) hx hb ht ui_X12 hown hK hB (by decide) (cell_8 rfl) rfl 11 (by decide) (ht _ tw927) (fun _ h9 => h9) rfl dX12_set_80 ?_
            refine lv_iload_n hx hb dX12_set_83 rfl (lv_at hl 1 rfl) ?_
            refine R_iald hx hb hK hB rfl (inb_eq q_5) dX12_set_84 ?_
            refine lv_if_ne (tgt := 95) hx hb dX12_set_85 (by decide) (fun c_13 => ?_) (fun c_13 => ?_)
            · replace h := itn h c_13
              refine lv_aload_n hx hb dX12_set_95 rfl (lv_at hl 0 rfl) ?_
              refine R_get (v := .ref (gL g 51)) hx hb ht ui_X12 hown hK hB (by decide) (cell_8 rfl) rfl 11 (by decide) (ht _ tw927) (fun _ h9 => h9) rfl dX12_set_96 ?_
              refine lv_iload_n hx hb dX12_set_99 rfl (lv_at hl 1 rfl) ?_
              refine R_iald hx hb hK hB rfl (inb_eq q_5) dX12_set_100 ?_
              refine lv_iconst (v := 1) hx hb dX12_set_101 (by decide) ?_
              refine lv_icmp_ne (tgt := 112) hx hb dX12_set_102 (by decide) (fun c_14 => ?_) (fun c_14 => ?_)
              · replace h := itn h c_14
                refine lv_aload_n hx hb dX12_set_112 rfl (lv_at hl 0 rfl) ?_
                refine R_get (v := .ref (gL g 51)) hx hb ht ui_X12 hown hK hB (by decide) (cell_8 rfl) rfl 11 (by decide) (ht _ tw927) (fun _ h9 => h9) rfl dX12_set_113 ?_
                refine lv_iload_n hx hb dX12_set_116 rfl (lv_at hl 1 rfl) ?_
                refine R_iald hx hb hK hB rfl (inb_eq q_5) dX12_set_117 ?_
                refine lv_iconst (v := 2) hx hb dX12_set_118 (by decide) ?_
                refine lv_icmp_ne (tgt := 128) hx hb dX12_set_119 (by decide) (fun c_15 => ?_) (fun c_15 => ?_)
                · replace h := itn h c_15
                  refine lv_lload_n hx hb dX12_set_128 rfl (lv_at hl 3 rfl) ?_
                  replace h := ck_eq h; obtain ⟨q_16, h⟩ := h
                  refine R_last hx hb hK hB rfl (inb_eq q_16) dX12_set_129 (fun H locs hB => ?_)
                  refine lv_iconst (v := 1) hx hb dX12_set_130 (by decide) ?_
                  obtain ⟨rfl, rfl⟩ := Prod.mk.inj (Option.some.inj h)
                  exact W.iret hx hb hr (R_end hB) hB.2.2.2.2 dX12_set_131
                · replace h := itp h c_15
                  refine lv_lload_n hx hb dX12_set_122 rfl (lv_at hl 3 rfl) ?_
                  refine lv_l2i (v := a3.toInt32) hx hb dX12_set_123 rfl ?_
                  refine lv_i2l (v := a3.toInt32.toInt64) hx hb dX12_set_124 rfl ?_
                  refine lv_goto (tgt := 129) hx hb dX12_set_125 (by decide) ?_
                  replace h := ck_eq h; obtain ⟨q_17, h⟩ := h
                  refine R_last hx hb hK hB rfl (inb_eq q_17) dX12_set_129 (fun H locs hB => ?_)
                  refine lv_iconst (v := 1) hx hb dX12_set_130 (by decide) ?_
                  obtain ⟨rfl, rfl⟩ := Prod.mk.inj (Option.some.inj h)
                  exact W.iret hx hb hr (R_end hB) hB.2.2.2.2 dX12_set_131
              · replace h := itp h c_14
                refine lv_lload_n hx hb dX12_set_105 rfl (lv_at hl 3 rfl) ?_
                refine lv_l2i (v := a3.toInt32) hx hb dX12_set_106 rfl ?_
                refine lv_i2s (v := a3.toInt32.toInt16.toInt32) hx hb dX12_set_107 rfl ?_
                refine lv_i2l (v := a3.toInt32.toInt16.toInt32.toInt64) hx hb dX12_set_108 rfl ?_
                refine lv_goto (tgt := 129) hx hb dX12_set_109 (by decide) ?_
                replace h := ck_eq h; obtain ⟨q_18, h⟩ := h
                refine R_last hx hb hK hB rfl (inb_eq q_18) dX12_set_129 (fun H locs hB => ?_)
                refine lv_iconst (v := 1) hx hb dX12_set_130 (by decide) ?_
                obtain ⟨rfl, rfl⟩ := Prod.mk.inj (Option.some.inj h)
                exact W.iret hx hb hr (R_end hB) hB.2.2.2.2 dX12_set_131
            · replace h := itp h c_13
              refine lv_lload_n hx hb dX12_set_88 rfl (lv_at hl 3 rfl) ?_
              refine lv_l2i (v := a3.toInt32) hx hb dX12_set_89 rfl ?_
              refine lv_i2b (v := a3.toInt32.toInt8.toInt32) hx hb dX12_set_90 rfl ?_
              refine lv_i2l (v := a3.toInt32.toInt8.toInt32.toInt64) hx hb dX12_set_91 rfl ?_
              refine lv_goto (tgt := 129) hx hb dX12_set_92 (by decide) ?_
              replace h := ck_eq h; obtain ⟨q_19, h⟩ := h
              refine R_last hx hb hK hB rfl (inb_eq q_19) dX12_set_129 (fun H locs hB => ?_)
              refine lv_iconst (v := 1) hx hb dX12_set_130 (by decide) ?_
              obtain ⟨rfl, rfl⟩ := Prod.mk.inj (Option.some.inj h)
              exact W.iret hx hb hr (R_end hB) hB.2.2.2.2 dX12_set_131
          · replace h := itn h c_12
            exact hb_61 s_2 H locs ls h hB (lv_sub hl [0] rfl)
      · replace h := itp h c_7
        refine lv_aload_n hx hb dX12_set_40 rfl (lv_at hl 0 rfl) ?_
        refine lv_bipush (v := -3) hx hb dX12_set_41 (by decide) ?_
        replace h := b2_eq h; obtain ⟨r_20, s_21, hc_22, h⟩ := h
        refine R_call (rest := []) [.int r_20] (R_runV (n := 1) (As := [.int (-3 : Int32)]) ⟨hx, hb, hml, hown, ht⟩ (fun _ h9 => h9) hK hZ hA hB (c_X12_no l g P s_2 (-3 : Int32) H.size hc_22) (R_recv hK hB (by decide) (cell_8 rfl) rfl) tw1042 tw1039 tw1041 pw26 tw5 ⟨by decide, by decide, by decide⟩ rfl rfl ⟨Nat.le_of_ble_eq_true rfl, Nat.le_of_ble_eq_true rfl⟩ rfl hl.1 rfl (Nat.le_of_ble_eq_true rfl) dX12_set_43 ⟨Nat.zero_le _, Nat.zero_le _⟩) hB hA rfl (fun H locs hB => ?_)
        obtain ⟨rfl, rfl⟩ := Prod.mk.inj (Option.some.inj h)
        exact W.iret hx hb hr (R_end hB) hB.2.2.2.2 dX12_set_46
    · replace h := itp h c_6
      refine lv_aload_n hx hb dX12_set_24 rfl (lv_at hl 0 rfl) ?_
      refine lv_bipush (v := -2) hx hb dX12_set_25 (by decide) ?_
      replace h := b2_eq h; obtain ⟨r_23, s_24, hc_25, h⟩ := h
      refine R_call (rest := []) [.int r_23] (R_runV (n := 1) (As := [.int (-2 : Int32)]) ⟨hx, hb, hml, hown, ht⟩ (fun _ h9 => h9) hK hZ hA hB (c_X12_no l g P s_2 (-2 : Int32) H.size hc_25) (R_recv hK hB (by decide) (cell_8 rfl) rfl) tw1042 tw1039 tw1041 pw26 tw5 ⟨by decide, by decide, by decide⟩ rfl rfl ⟨Nat.le_of_ble_eq_true rfl, Nat.le_of_ble_eq_true rfl⟩ rfl hl.1 rfl (Nat.le_of_ble_eq_true rfl) dX12_set_27 ⟨Nat.zero_le _, Nat.zero_le _⟩) hB hA rfl (fun H locs hB => ?_)
      obtain ⟨rfl, rfl⟩ := Prod.mk.inj (Option.some.inj h)
      exact W.iret hx hb hr (R_end hB) hB.2.2.2.2 dX12_set_30
  · replace h := itp h c_4
    refine lv_aload_n hx hb dX12_set_8 rfl (lv_at hl 0 rfl) ?_
    refine lv_iconst (v := -1) hx hb dX12_set_9 (by decide) ?_
    replace h := b2_eq h; obtain ⟨r_26, s_27, hc_28, h⟩ := h
    refine R_call (rest := []) [.int r_26] (R_runV (n := 1) (As := [.int (-1 : Int32)]) ⟨hx, hb, hml, hown, ht⟩ (fun _ h9 => h9) hK hZ hA hB (c_X12_no l g P s_2 (-1 : Int32) H.size hc_28) (R_recv hK hB (by decide) (cell_8 rfl) rfl) tw1042 tw1039 tw1041 pw26 tw5 ⟨by decide, by decide, by decide⟩ rfl rfl ⟨Nat.le_of_ble_eq_true rfl, Nat.le_of_ble_eq_true rfl⟩ rfl hl.1 rfl (Nat.le_of_ble_eq_true rfl) dX12_set_10 ⟨Nat.zero_le _, Nat.zero_le _⟩) hB hA rfl (fun H locs hB => ?_)
    obtain ⟨rfl, rfl⟩ := Prod.mk.inj (Option.some.inj h)
    exact W.iret hx hb hr (R_end hB) hB.2.2.2.2 dX12_set_13
def f_X12_copy_b16 (σ1 : Hp) : Option (Int32 × Hp) := b2 (f_X12_no (-1 : Int32) σ1) (fun r_5 s_6 => some (r_5, s_6))
def f_X12_copy_b77 (σ1 : Hp) : Option (Int32 × Hp) := b2 (f_X12_no (-2 : Int32) σ1) (fun r_14 s_15 => some (r_14, s_15))
def f_X12_copy_b102 (σ1 : Hp) : Option (Int32 × Hp) := b2 (f_X12_no (-3 : Int32) σ1) (fun r_22 s_23 => some (r_22, s_23))
def f_X12_copy_b157 (σ1 : Hp) : Option (Int32 × Hp) := b2 (f_X12_no (-5 : Int32) σ1) (fun r_29 s_30 => some (r_29, s_30))
def f_X12_copy_t205 (x2 : Int32) (x4 : Int32) (x5 : Int32) (x6 : Int32) (σ1 : Hp) : Option ((Int32 × Hp) ⊕ (Int32 × Hp)) := if x5 ≤ x6 then ex (some ((1 : Int32), σ1)) else ck (inb x6 160 = true) (ck (inb ((((160 : Int32) * x2) + x4) + x6) 1280 = true) (some (.inl ((x6 + 1), (sJ σ1 54 ((((160 : Int32) * x2) + x4) + x6).toNatClampNeg (hJ σ1 55 x6.toNatClampNeg))))))
def f_X12_copy_s205 (x2 : Int32) (x4 : Int32) (x5 : Int32) (v : (Int32 × Hp)) : Option ((Int32 × Hp) ⊕ (Int32 × Hp)) := f_X12_copy_t205 x2 x4 x5 v.1 v.2
def f_X12_copy_t167 (x1 : Int32) (x2 : Int32) (x3 : Int32) (x4 : Int32) (x5 : Int32) (x6 : Int32) (σ1 : Hp) : Option ((Int32 × Hp) ⊕ (Int32 × Hp)) := if x5 ≤ x6 then ex (iter (f_X12_copy_s205 x2 x4 x5) fuel ((0 : Int32), σ1)) else ck (inb ((((160 : Int32) * x1) + x3) + x6) 1280 = true) (ck (inb x6 160 = true) (some (.inl ((x6 + 1), (sJ σ1 55 x6.toNatClampNeg (hJ σ1 54 ((((160 : Int32) * x1) + x3) + x6).toNatClampNeg))))))
def f_X12_copy_s167 (x1 : Int32) (x2 : Int32) (x3 : Int32) (x4 : Int32) (x5 : Int32) (v : (Int32 × Hp)) : Option ((Int32 × Hp) ⊕ (Int32 × Hp)) := f_X12_copy_t167 x1 x2 x3 x4 x5 v.1 v.2
def f_X12_copy_b84 (x1 : Int32) (x2 : Int32) (x3 : Int32) (x4 : Int32) (x5 : Int32) (σ1 : Hp) : Option (Int32 × Hp) := ck (inb x1 8 = true) (if (hI σ1 50 x1.toNatClampNeg) = 0 then f_X12_copy_b102 σ1 else ck (inb x2 8 = true) (if (hI σ1 50 x2.toNatClampNeg) = 0 then f_X12_copy_b102 σ1 else if 0 ≤ x5 then if x3 < 0 then f_X12_copy_b157 σ1 else if x4 < 0 then f_X12_copy_b157 σ1 else if ((hI σ1 52 x1.toNatClampNeg) - x5) < x3 then f_X12_copy_b157 σ1 else if x4 ≤ ((hI σ1 52 x2.toNatClampNeg) - x5) then iter (f_X12_copy_s167 x1 x2 x3 x4 x5) fuel ((0 : Int32), σ1) else f_X12_copy_b157 σ1 else b2 (f_X12_no (-4 : Int32) σ1) (fun r_41 s_42 => some (r_41, s_42))))
def f_X12_copy (a1 : Int32) (a2 : Int32) (a3 : Int32) (a4 : Int32) (a5 : Int32) (σ : Hp) : Option (Int32 × Hp) := b2 (f_X12_isShelf a1 σ) (fun r_1 s_2 => if r_1 = 0 then f_X12_copy_b16 s_2 else b2 (f_X12_isShelf a2 s_2) (fun r_8 s_9 => if r_8 = 0 then f_X12_copy_b16 s_9 else ck (inb a1 8 = true) (if (hI s_9 50 a1.toNatClampNeg) = (2 : Int32) then f_X12_copy_b77 s_9 else ck (inb a2 8 = true) (if (hI s_9 50 a2.toNatClampNeg) = (2 : Int32) then f_X12_copy_b77 s_9 else if (hI s_9 50 a1.toNatClampNeg) = (1 : Int32) then if (hI s_9 50 a2.toNatClampNeg) = (1 : Int32) then if (hI s_9 51 a1.toNatClampNeg) = (hI s_9 51 a2.toNatClampNeg) then f_X12_copy_b84 a1 a2 a3 a4 a5 s_9 else f_X12_copy_b77 s_9 else f_X12_copy_b84 a1 a2 a3 a4 a5 s_9 else f_X12_copy_b84 a1 a2 a3 a4 a5 s_9))))
set_option maxHeartbeats 4000000 in
set_option maxRecDepth 100000 in
theorem c_X12_copy (l : Launch) (g : tG) (P : Nat → Nat) (σ : Hp) (a1 : Int32) (a2 : Int32) (a3 : Int32) (a4 : Int32) (a5 : Int32) (sz : Nat) {r : Int32} {τ : Hp} (h : f_X12_copy a1 a2 a3 a4 a5 σ = some (r, τ)) : Met l yX12_copy (Cond.code yX12_copy cX12_copy 7 (some .int) :: tblG) ({ frames := 1, cells := 0, slots := 0, locals := 21 }) (va_Pc [.ref (gL g 40), .int a1, .int a2, .int a3, .int a4, .int a5] (tPre g P σ sz)) (tQ (some (.int r)) (tPost g P τ (va_A (wC g P σ) sz)) (va_A (wC g P σ) sz)) 0 0 (va_A (wC g P σ) sz) := by
  refine T_start (B := fun A => tPost g P τ A) (by decide) (Nat.le_of_ble_eq_true rfl) ?_
  intro p e s m args below meth c ls0 A hx hb hml hr hown hlocks ht hnm hK hZ hA hB0 hl0
  have hb_16 : ∀ (σ1 : Hp) (H : Heap) (locs : List Loc) (ls : Array Slot), f_X12_copy_b16 σ1 = some (r, τ) → tB g P σ1 A s.heap H locs → lv_has ls 7 [(0, .ref (gL g 40))] → WQ p l e { frames := 1, cells := 0, slots := 0, locals := 21 } s m args below meth c g P A (some (.int r)) τ H locs (F0 m 16 ls []) := by
    intro σ1 H locs ls h hB hl
    unfold f_X12_copy_b16 at h
    refine lv_aload_n hx hb dX12_copy_16 rfl (lv_at hl 0 rfl) ?_
    refine lv_iconst (v := -1) hx hb dX12_copy_17 (by decide) ?_
    replace h := b2_eq h; obtain ⟨r_5, s_6, hc_7, h⟩ := h
    refine R_call (rest := []) [.int r_5] (R_runV (n := 1) (As := [.int (-1 : Int32)]) ⟨hx, hb, hml, hown, ht⟩ (fun _ h9 => h9) hK hZ hA hB (c_X12_no l g P σ1 (-1 : Int32) H.size hc_7) (R_recv hK hB (by decide) (cell_8 rfl) rfl) tw1042 tw1039 tw1041 pw26 tw5 ⟨by decide, by decide, by decide⟩ rfl rfl ⟨Nat.le_of_ble_eq_true rfl, Nat.le_of_ble_eq_true rfl⟩ rfl hl.1 rfl (Nat.le_of_ble_eq_true rfl) dX12_copy_18 ⟨Nat.zero_le _, Nat.zero_le _⟩) hB hA rfl (fun H locs hB => ?_)
    obtain ⟨rfl, rfl⟩ := Prod.mk.inj (Option.some.inj h)
    exact W.iret hx hb hr (R_end hB) hB.2.2.2.2 dX12_copy_21
  have hb_77 : ∀ (σ1 : Hp) (H : Heap) (locs : List Loc) (ls : Array Slot), f_X12_copy_b77 σ1 = some (r, τ) → tB g P σ1 A s.heap H locs → lv_has ls 7 [(0, .ref (gL g 40))] → WQ p l e { frames := 1, cells := 0, slots := 0, locals := 21 } s m args below meth c g P A (some (.int r)) τ H locs (F0 m 77 ls []) := by
    intro σ1 H locs ls h hB hl
    unfold f_X12_copy_b77 at h
    refine lv_aload_n hx hb dX12_copy_77 rfl (lv_at hl 0 rfl) ?_
    refine lv_bipush (v := -2) hx hb dX12_copy_78 (by decide) ?_
    replace h := b2_eq h; obtain ⟨r_14, s_15, hc_16, h⟩ := h
    refine R_call (rest := []) [.int r_14] (R_runV (n := 1) (As := [.int (-2 : Int32)]) ⟨hx, hb, hml, hown, ht⟩ (fun _ h9 => h9) hK hZ hA hB (c_X12_no l g P σ1 (-2 : Int32) H.size hc_16) (R_recv hK hB (by decide) (cell_8 rfl) rfl) tw1042 tw1039 tw1041 pw26 tw5 ⟨by decide, by decide, by decide⟩ rfl rfl ⟨Nat.le_of_ble_eq_true rfl, Nat.le_of_ble_eq_true rfl⟩ rfl hl.1 rfl (Nat.le_of_ble_eq_true rfl) dX12_copy_80 ⟨Nat.zero_le _, Nat.zero_le _⟩) hB hA rfl (fun H locs hB => ?_)
    obtain ⟨rfl, rfl⟩ := Prod.mk.inj (Option.some.inj h)
    exact W.iret hx hb hr (R_end hB) hB.2.2.2.2 dX12_copy_83
  have hb_102 : ∀ (σ1 : Hp) (H : Heap) (locs : List Loc) (ls : Array Slot), f_X12_copy_b102 σ1 = some (r, τ) → tB g P σ1 A s.heap H locs → lv_has ls 7 [(0, .ref (gL g 40))] → WQ p l e { frames := 1, cells := 0, slots := 0, locals := 21 } s m args below meth c g P A (some (.int r)) τ H locs (F0 m 102 ls []) := by
    intro σ1 H locs ls h hB hl
    unfold f_X12_copy_b102 at h
    refine lv_aload_n hx hb dX12_copy_102 rfl (lv_at hl 0 rfl) ?_
    refine lv_bipush (v := -3) hx hb dX12_copy_103 (by decide) ?_
    replace h := b2_eq h; obtain ⟨r_22, s_23, hc_24, h⟩ := h
    refine R_call (rest := []) [.int r_22] (R_runV (n := 1) (As := [.int (-3 : Int32)]) ⟨hx, hb, hml, hown, ht⟩ (fun _ h9 => h9) hK hZ hA hB (c_X12_no l g P σ1 (-3 : Int32) H.size hc_24) (R_recv hK hB (by decide) (cell_8 rfl) rfl) tw1042 tw1039 tw1041 pw26 tw5 ⟨by decide, by decide, by decide⟩ rfl rfl ⟨Nat.le_of_ble_eq_true rfl, Nat.le_of_ble_eq_true rfl⟩ rfl hl.1 rfl (Nat.le_of_ble_eq_true rfl) dX12_copy_105 ⟨Nat.zero_le _, Nat.zero_le _⟩) hB hA rfl (fun H locs hB => ?_)
    obtain ⟨rfl, rfl⟩ := Prod.mk.inj (Option.some.inj h)
    exact W.iret hx hb hr (R_end hB) hB.2.2.2.2 dX12_copy_108
  have hb_157 : ∀ (σ1 : Hp) (H : Heap) (locs : List Loc) (ls : Array Slot), f_X12_copy_b157 σ1 = some (r, τ) → tB g P σ1 A s.heap H locs → lv_has ls 7 [(0, .ref (gL g 40))] → WQ p l e { frames := 1, cells := 0, slots := 0, locals := 21 } s m args below meth c g P A (some (.int r)) τ H locs (F0 m 157 ls []) := by
    intro σ1 H locs ls h hB hl
    unfold f_X12_copy_b157 at h
    refine lv_aload_n hx hb dX12_copy_157 rfl (lv_at hl 0 rfl) ?_
    refine lv_bipush (v := -5) hx hb dX12_copy_158 (by decide) ?_
    replace h := b2_eq h; obtain ⟨r_29, s_30, hc_31, h⟩ := h
    refine R_call (rest := []) [.int r_29] (R_runV (n := 1) (As := [.int (-5 : Int32)]) ⟨hx, hb, hml, hown, ht⟩ (fun _ h9 => h9) hK hZ hA hB (c_X12_no l g P σ1 (-5 : Int32) H.size hc_31) (R_recv hK hB (by decide) (cell_8 rfl) rfl) tw1042 tw1039 tw1041 pw26 tw5 ⟨by decide, by decide, by decide⟩ rfl rfl ⟨Nat.le_of_ble_eq_true rfl, Nat.le_of_ble_eq_true rfl⟩ rfl hl.1 rfl (Nat.le_of_ble_eq_true rfl) dX12_copy_160 ⟨Nat.zero_le _, Nat.zero_le _⟩) hB hA rfl (fun H locs hB => ?_)
    obtain ⟨rfl, rfl⟩ := Prod.mk.inj (Option.some.inj h)
    exact W.iret hx hb hr (R_end hB) hB.2.2.2.2 dX12_copy_163
  have hL_205 : ∀ (x2 : Int32) (x4 : Int32) (x5 : Int32) (n : Nat) (x6 : Int32) (σ1 : Hp) (H : Heap) (locs : List Loc) (ls : Array Slot), iter (f_X12_copy_s205 x2 x4 x5) n (x6, σ1) = some (r, τ) → tB g P σ1 A s.heap H locs → lv_has ls 7 [(0, .ref (gL g 40)), (2, .int x2), (4, .int x4), (5, .int x5), (6, .int x6)] → WQ p l e { frames := 1, cells := 0, slots := 0, locals := 21 } s m args below meth c g P A (some (.int r)) τ H locs (F0 m 205 ls []) := by
    intro x2 x4 x5 n
    induction n with
    | zero =>
      intro x6 σ1 H locs ls h hB hl
      exact (iter_0 h).elim
    | succ n ih1 =>
      intro x6 σ1 H locs ls h hB hl
      replace h := iter_eq h; obtain ⟨z1, hh1, hx1⟩ := h
      have h : f_X12_copy_t205 x2 x4 x5 x6 σ1 = some z1 := hh1
      clear hh1
      unfold f_X12_copy_t205 at h
      refine lv_iload hx hb dX12_copy_205 (lv_at hl 4 rfl) ?_
      refine lv_iload hx hb dX12_copy_207 (lv_at hl 3 rfl) ?_
      refine lv_icmp_ge (tgt := 241) hx hb dX12_copy_209 (by decide) (fun c_36 => ?_) (fun c_36 => ?_)
      · replace h := itp h c_36
        replace h := ex_eq h; obtain ⟨b1, h, hz1⟩ := h
        subst hz1
        have hz1 := (itk_inr hx1).symm
        subst hz1
        refine lv_iconst (v := 1) hx hb dX12_copy_241 (by decide) ?_
        obtain ⟨rfl, rfl⟩ := Prod.mk.inj (Option.some.inj h)
        exact W.iret hx hb hr (R_end hB) hB.2.2.2.2 dX12_copy_242
      · replace h := itn h c_36
        refine lv_aload_n hx hb dX12_copy_212 rfl (lv_at hl 0 rfl) ?_
        refine R_get (v := .ref (gL g 54)) hx hb ht ui_X12 hown hK hB (by decide) (cell_8 rfl) rfl 14 (by decide) (ht _ tw930) (fun _ h9 => h9) rfl dX12_copy_213 ?_
        refine lv_sipush (v := 160) hx hb dX12_copy_216 (by decide) ?_
        refine lv_iload_n hx hb dX12_copy_219 rfl (lv_at hl 1 rfl) ?_
        refine lv_imul hx hb dX12_copy_220 ?_
        refine lv_iload hx hb dX12_copy_221 (lv_at hl 2 rfl) ?_
        refine lv_iadd hx hb dX12_copy_223 ?_
        refine lv_iload hx hb dX12_copy_224 (lv_at hl 4 rfl) ?_
        refine lv_iadd hx hb dX12_copy_226 ?_
        refine lv_aload_n hx hb dX12_copy_227 rfl (lv_at hl 0 rfl) ?_
        refine R_get (v := .ref (gL g 55)) hx hb ht ui_X12 hown hK hB (by decide) (cell_8 rfl) rfl 15 (by decide) (ht _ tw931) (fun _ h9 => h9) rfl dX12_copy_228 ?_
        refine lv_iload hx hb dX12_copy_231 (lv_at hl 4 rfl) ?_
        replace h := ck_eq h; obtain ⟨q_37, h⟩ := h
        refine R_lald hx hb hK hB rfl (inb_eq q_37) dX12_copy_233 ?_
        replace h := ck_eq h; obtain ⟨q_38, h⟩ := h
        refine R_last hx hb hK hB rfl (inb_eq q_38) dX12_copy_234 (fun H locs hB => ?_)
        refine lv_iinc (v := x6 + 1) (lv' := [(6, .int (x6 + 1)), (0, .ref (gL g 40)), (2, .int x2), (4, .int x4), (5, .int x5)]) hx hb dX12_copy_235 hl (k := 4) rfl rfl (by decide) rfl (fun ls hl => ?_)
        refine lv_goto (tgt := 205) hx hb dX12_copy_238 (by decide) ?_
        obtain rfl := Option.some.inj h
        exact ih1 (x6 + 1) (sJ σ1 54 ((((160 : Int32) * x2) + x4) + x6).toNatClampNeg (hJ σ1 55 x6.toNatClampNeg)) H locs ls hx1 hB (lv_sub hl [1, 2, 3, 4, 0] rfl)
  have hL_167 : ∀ (x1 : Int32) (x2 : Int32) (x3 : Int32) (x4 : Int32) (x5 : Int32) (n : Nat) (x6 : Int32) (σ1 : Hp) (H : Heap) (locs : List Loc) (ls : Array Slot), iter (f_X12_copy_s167 x1 x2 x3 x4 x5) n (x6, σ1) = some (r, τ) → tB g P σ1 A s.heap H locs → lv_has ls 7 [(0, .ref (gL g 40)), (1, .int x1), (2, .int x2), (3, .int x3), (4, .int x4), (5, .int x5), (6, .int x6)] → WQ p l e { frames := 1, cells := 0, slots := 0, locals := 21 } s m args below meth c g P A (some (.int r)) τ H locs (F0 m 167 ls []) := by
    intro x1 x2 x3 x4 x5 n
    induction n with
    | zero =>
      intro x6 σ1 H locs ls h hB hl
      exact (iter_0 h).elim
    | succ n ih1 =>
      intro x6 σ1 H locs ls h hB hl
      replace h := iter_eq h; obtain ⟨z1, hh1, hx1⟩ := h
      have h : f_X12_copy_t167 x1 x2 x3 x4 x5 x6 σ1 = some z1 := hh1
      clear hh1
      unfold f_X12_copy_t167 at h
      refine lv_iload hx hb dX12_copy_167 (lv_at hl 6 rfl) ?_
      refine lv_iload hx hb dX12_copy_169 (lv_at hl 5 rfl) ?_
      refine lv_icmp_ge (tgt := 202) hx hb dX12_copy_171 (by decide) (fun c_35 => ?_) (fun c_35 => ?_)
      · replace h := itp h c_35
        replace h := ex_eq h; obtain ⟨b1, h, hz1⟩ := h
        subst hz1
        have hz1 := (itk_inr hx1).symm
        subst hz1
        refine lv_iconst (v := 0) hx hb dX12_copy_202 (by decide) ?_
        refine lv_istore (lv' := [(6, .int (0 : Int32)), (0, .ref (gL g 40)), (1, .int x1), (2, .int x2), (3, .int x3), (4, .int x4), (5, .int x5)]) hx hb dX12_copy_203 hl (by decide) rfl (fun ls hl => ?_)
        exact hL_205 x2 x4 x5 fuel (0 : Int32) σ1 H locs ls h hB (lv_sub hl [1, 3, 5, 6, 0] rfl)
      · replace h := itn h c_35
        refine lv_aload_n hx hb dX12_copy_174 rfl (lv_at hl 0 rfl) ?_
        refine R_get (v := .ref (gL g 55)) hx hb ht ui_X12 hown hK hB (by decide) (cell_8 rfl) rfl 15 (by decide) (ht _ tw931) (fun _ h9 => h9) rfl dX12_copy_175 ?_
        refine lv_iload hx hb dX12_copy_178 (lv_at hl 6 rfl) ?_
        refine lv_aload_n hx hb dX12_copy_180 rfl (lv_at hl 0 rfl) ?_
        refine R_get (v := .ref (gL g 54)) hx hb ht ui_X12 hown hK hB (by decide) (cell_8 rfl) rfl 14 (by decide) (ht _ tw930) (fun _ h9 => h9) rfl dX12_copy_181 ?_
        refine lv_sipush (v := 160) hx hb dX12_copy_184 (by decide) ?_
        refine lv_iload_n hx hb dX12_copy_187 rfl (lv_at hl 1 rfl) ?_
        refine lv_imul hx hb dX12_copy_188 ?_
        refine lv_iload_n hx hb dX12_copy_189 rfl (lv_at hl 3 rfl) ?_
        refine lv_iadd hx hb dX12_copy_190 ?_
        refine lv_iload hx hb dX12_copy_191 (lv_at hl 6 rfl) ?_
        refine lv_iadd hx hb dX12_copy_193 ?_
        replace h := ck_eq h; obtain ⟨q_39, h⟩ := h
        refine R_lald hx hb hK hB rfl (inb_eq q_39) dX12_copy_194 ?_
        replace h := ck_eq h; obtain ⟨q_40, h⟩ := h
        refine R_last hx hb hK hB rfl (inb_eq q_40) dX12_copy_195 (fun H locs hB => ?_)
        refine lv_iinc (v := x6 + 1) (lv' := [(6, .int (x6 + 1)), (0, .ref (gL g 40)), (1, .int x1), (2, .int x2), (3, .int x3), (4, .int x4), (5, .int x5)]) hx hb dX12_copy_196 hl (k := 6) rfl rfl (by decide) rfl (fun ls hl => ?_)
        refine lv_goto (tgt := 167) hx hb dX12_copy_199 (by decide) ?_
        obtain rfl := Option.some.inj h
        exact ih1 (x6 + 1) (sJ σ1 55 x6.toNatClampNeg (hJ σ1 54 ((((160 : Int32) * x1) + x3) + x6).toNatClampNeg)) H locs ls hx1 hB (lv_sub hl [1, 2, 3, 4, 5, 6, 0] rfl)
  have hb_84 : ∀ (x1 : Int32) (x2 : Int32) (x3 : Int32) (x4 : Int32) (x5 : Int32) (σ1 : Hp) (H : Heap) (locs : List Loc) (ls : Array Slot), f_X12_copy_b84 x1 x2 x3 x4 x5 σ1 = some (r, τ) → tB g P σ1 A s.heap H locs → lv_has ls 7 [(0, .ref (gL g 40)), (1, .int x1), (2, .int x2), (3, .int x3), (4, .int x4), (5, .int x5)] → WQ p l e { frames := 1, cells := 0, slots := 0, locals := 21 } s m args below meth c g P A (some (.int r)) τ H locs (F0 m 84 ls []) := by
    intro x1 x2 x3 x4 x5 σ1 H locs ls h hB hl
    unfold f_X12_copy_b84 at h
    refine lv_aload_n hx hb dX12_copy_84 rfl (lv_at hl 0 rfl) ?_
    refine R_get (v := .ref (gL g 50)) hx hb ht ui_X12 hown hK hB (by decide) (cell_8 rfl) rfl 10 (by decide) (ht _ tw926) (fun _ h9 => h9) rfl dX12_copy_85 ?_
    refine lv_iload_n hx hb dX12_copy_88 rfl (lv_at hl 1 rfl) ?_
    replace h := ck_eq h; obtain ⟨q_20, h⟩ := h
    refine R_iald hx hb hK hB rfl (inb_eq q_20) dX12_copy_89 ?_
    refine lv_if_eq (tgt := 102) hx hb dX12_copy_90 (by decide) (fun c_21 => ?_) (fun c_21 => ?_)
    · replace h := itp h c_21
      exact hb_102 σ1 H locs ls h hB (lv_sub hl [0] rfl)
    · replace h := itn h c_21
      refine lv_aload_n hx hb dX12_copy_93 rfl (lv_at hl 0 rfl) ?_
      refine R_get (v := .ref (gL g 50)) hx hb ht ui_X12 hown hK hB (by decide) (cell_8 rfl) rfl 10 (by decide) (ht _ tw926) (fun _ h9 => h9) rfl dX12_copy_94 ?_
      refine lv_iload_n hx hb dX12_copy_97 rfl (lv_at hl 2 rfl) ?_
      replace h := ck_eq h; obtain ⟨q_25, h⟩ := h
      refine R_iald hx hb hK hB rfl (inb_eq q_25) dX12_copy_98 ?_
      refine lv_if_ne (tgt := 109) hx hb dX12_copy_99 (by decide) (fun c_26 => ?_) (fun c_26 => ?_)
      · replace h := itn h c_26
        refine lv_iload hx hb dX12_copy_109 (lv_at hl 5 rfl) ?_
        refine lv_if_ge (tgt := 121) hx hb dX12_copy_111 (by decide) (fun c_27 => ?_) (fun c_27 => ?_)
        · replace h := itp h c_27
          refine lv_iload_n hx hb dX12_copy_121 rfl (lv_at hl 3 rfl) ?_
          refine lv_if_lt (tgt := 157) hx hb dX12_copy_122 (by decide) (fun c_28 => ?_) (fun c_28 => ?_)
          · replace h := itp h c_28
            exact hb_157 σ1 H locs ls h hB (lv_sub hl [0] rfl)
          · replace h := itn h c_28
            refine lv_iload hx hb dX12_copy_125 (lv_at hl 4 rfl) ?_
            refine lv_if_lt (tgt := 157) hx hb dX12_copy_127 (by decide) (fun c_32 => ?_) (fun c_32 => ?_)
            · replace h := itp h c_32
              exact hb_157 σ1 H locs ls h hB (lv_sub hl [0] rfl)
            · replace h := itn h c_32
              refine lv_iload_n hx hb dX12_copy_130 rfl (lv_at hl 3 rfl) ?_
              refine lv_aload_n hx hb dX12_copy_131 rfl (lv_at hl 0 rfl) ?_
              refine R_get (v := .ref (gL g 52)) hx hb ht ui_X12 hown hK hB (by decide) (cell_8 rfl) rfl 12 (by decide) (ht _ tw928) (fun _ h9 => h9) rfl dX12_copy_132 ?_
              refine lv_iload_n hx hb dX12_copy_135 rfl (lv_at hl 1 rfl) ?_
              refine R_iald hx hb hK hB rfl (inb_eq q_20) dX12_copy_136 ?_
              refine lv_iload hx hb dX12_copy_137 (lv_at hl 5 rfl) ?_
              refine lv_isub hx hb dX12_copy_139 ?_
              refine lv_icmp_gt (tgt := 157) hx hb dX12_copy_140 (by decide) (fun c_33 => ?_) (fun c_33 => ?_)
              · replace h := itp h c_33
                exact hb_157 σ1 H locs ls h hB (lv_sub hl [0] rfl)
              · replace h := itn h c_33
                refine lv_iload hx hb dX12_copy_143 (lv_at hl 4 rfl) ?_
                refine lv_aload_n hx hb dX12_copy_145 rfl (lv_at hl 0 rfl) ?_
                refine R_get (v := .ref (gL g 52)) hx hb ht ui_X12 hown hK hB (by decide) (cell_8 rfl) rfl 12 (by decide) (ht _ tw928) (fun _ h9 => h9) rfl dX12_copy_146 ?_
                refine lv_iload_n hx hb dX12_copy_149 rfl (lv_at hl 2 rfl) ?_
                refine R_iald hx hb hK hB rfl (inb_eq q_25) dX12_copy_150 ?_
                refine lv_iload hx hb dX12_copy_151 (lv_at hl 5 rfl) ?_
                refine lv_isub hx hb dX12_copy_153 ?_
                refine lv_icmp_le (tgt := 164) hx hb dX12_copy_154 (by decide) (fun c_34 => ?_) (fun c_34 => ?_)
                · replace h := itp h c_34
                  refine lv_iconst (v := 0) hx hb dX12_copy_164 (by decide) ?_
                  refine lv_istore (lv' := [(6, .int (0 : Int32)), (0, .ref (gL g 40)), (1, .int x1), (2, .int x2), (3, .int x3), (4, .int x4), (5, .int x5)]) hx hb dX12_copy_165 hl (by decide) rfl (fun ls hl => ?_)
                  exact hL_167 x1 x2 x3 x4 x5 fuel (0 : Int32) σ1 H locs ls h hB (lv_sub hl [1, 2, 3, 4, 5, 6, 0] rfl)
                · replace h := itn h c_34
                  exact hb_157 σ1 H locs ls h hB (lv_sub hl [0] rfl)
        · replace h := itn h c_27
          refine lv_aload_n hx hb dX12_copy_114 rfl (lv_at hl 0 rfl) ?_
          refine lv_bipush (v := -4) hx hb dX12_copy_115 (by decide) ?_
          replace h := b2_eq h; obtain ⟨r_41, s_42, hc_43, h⟩ := h
          refine R_call (rest := []) [.int r_41] (R_runV (n := 1) (As := [.int (-4 : Int32)]) ⟨hx, hb, hml, hown, ht⟩ (fun _ h9 => h9) hK hZ hA hB (c_X12_no l g P σ1 (-4 : Int32) H.size hc_43) (R_recv hK hB (by decide) (cell_8 rfl) rfl) tw1042 tw1039 tw1041 pw26 tw5 ⟨by decide, by decide, by decide⟩ rfl rfl ⟨Nat.le_of_ble_eq_true rfl, Nat.le_of_ble_eq_true rfl⟩ rfl hl.1 rfl (Nat.le_of_ble_eq_true rfl) dX12_copy_117 ⟨Nat.zero_le _, Nat.zero_le _⟩) hB hA rfl (fun H locs hB => ?_)
          obtain ⟨rfl, rfl⟩ := Prod.mk.inj (Option.some.inj h)
          exact W.iret hx hb hr (R_end hB) hB.2.2.2.2 dX12_copy_120
      · replace h := itp h c_26
        exact hb_102 σ1 H locs ls h hB (lv_sub hl [0] rfl)
  suffices hmain : ∀ (H : Heap) (locs : List Loc) (ls : Array Slot), tB g P σ A s.heap H locs → lv_has ls 7 [(0, .ref (gL g 40)), (1, .int a1), (2, .int a2), (3, .int a3), (4, .int a4), (5, .int a5)] → WQ p l e { frames := 1, cells := 0, slots := 0, locals := 21 } s m args below meth c g P A (some (.int r)) τ H locs (F0 m 0 ls []) from hmain _ _ ls0 hB0 hl0
  intro H locs ls hB hl
  unfold f_X12_copy at h
  refine lv_aload_n hx hb dX12_copy_0 rfl (lv_at hl 0 rfl) ?_
  refine lv_iload_n hx hb dX12_copy_1 rfl (lv_at hl 1 rfl) ?_
  replace h := b2_eq h; obtain ⟨r_1, s_2, hc_3, h⟩ := h
  refine R_call (rest := []) [.int r_1] (R_runV (n := 1) (As := [.int a1]) ⟨hx, hb, hml, hown, ht⟩ (fun _ h9 => h9) hK hZ hA hB (c_X12_isShelf l g P σ a1 H.size hc_3) (R_recv hK hB (by decide) (cell_8 rfl) rfl) tw1038 tw1035 tw1037 pw25 tw5 ⟨by decide, by decide, by decide⟩ rfl rfl ⟨Nat.le_of_ble_eq_true rfl, Nat.le_of_ble_eq_true rfl⟩ rfl hl.1 rfl (Nat.le_of_ble_eq_true rfl) dX12_copy_2 ⟨Nat.zero_le _, Nat.zero_le _⟩) hB hA rfl (fun H locs hB => ?_)
  refine lv_if_eq (tgt := 16) hx hb dX12_copy_5 (by decide) (fun c_4 => ?_) (fun c_4 => ?_)
  · replace h := itp h c_4
    exact hb_16 s_2 H locs ls h hB (lv_sub hl [0] rfl)
  · replace h := itn h c_4
    refine lv_aload_n hx hb dX12_copy_8 rfl (lv_at hl 0 rfl) ?_
    refine lv_iload_n hx hb dX12_copy_9 rfl (lv_at hl 2 rfl) ?_
    replace h := b2_eq h; obtain ⟨r_8, s_9, hc_10, h⟩ := h
    refine R_call (rest := []) [.int r_8] (R_runV (n := 1) (As := [.int a2]) ⟨hx, hb, hml, hown, ht⟩ (fun _ h9 => h9) hK hZ hA hB (c_X12_isShelf l g P s_2 a2 H.size hc_10) (R_recv hK hB (by decide) (cell_8 rfl) rfl) tw1038 tw1035 tw1037 pw25 tw5 ⟨by decide, by decide, by decide⟩ rfl rfl ⟨Nat.le_of_ble_eq_true rfl, Nat.le_of_ble_eq_true rfl⟩ rfl hl.1 rfl (Nat.le_of_ble_eq_true rfl) dX12_copy_10 ⟨Nat.zero_le _, Nat.zero_le _⟩) hB hA rfl (fun H locs hB => ?_)
    refine lv_if_ne (tgt := 22) hx hb dX12_copy_13 (by decide) (fun c_11 => ?_) (fun c_11 => ?_)
    · replace h := itn h c_11
      refine lv_aload_n hx hb dX12_copy_22 rfl (lv_at hl 0 rfl) ?_
      refine R_get (v := .ref (gL g 50)) hx hb ht ui_X12 hown hK hB (by decide) (cell_8 rfl) rfl 10 (by decide) (ht _ tw926) (fun _ h9 => h9) rfl dX12_copy_23 ?_
      refine lv_iload_n hx hb dX12_copy_26 rfl (lv_at hl 1 rfl) ?_
      replace h := ck_eq h; obtain ⟨q_12, h⟩ := h
      refine R_iald hx hb hK hB rfl (inb_eq q_12) dX12_copy_27 ?_
      refine lv_iconst (v := 2) hx hb dX12_copy_28 (by decide) ?_
      refine lv_icmp_eq (tgt := 77) hx hb dX12_copy_29 (by decide) (fun c_13 => ?_) (fun c_13 => ?_)
      · replace h := itp h c_13
        exact hb_77 s_9 H locs ls h hB (lv_sub hl [0] rfl)
      · replace h := itn h c_13
        refine lv_aload_n hx hb dX12_copy_32 rfl (lv_at hl 0 rfl) ?_
        refine R_get (v := .ref (gL g 50)) hx hb ht ui_X12 hown hK hB (by decide) (cell_8 rfl) rfl 10 (by decide) (ht _ tw926) (fun _ h9 => h9) rfl dX12_copy_33 ?_
        refine lv_iload_n hx hb dX12_copy_36 rfl (lv_at hl 2 rfl) ?_
        replace h := ck_eq h; obtain ⟨q_17, h⟩ := h
        refine R_iald hx hb hK hB rfl (inb_eq q_17) dX12_copy_37 ?_
        refine lv_iconst (v := 2) hx hb dX12_copy_38 (by decide) ?_
        refine lv_icmp_eq (tgt := 77) hx hb dX12_copy_39 (by decide) (fun c_18 => ?_) (fun c_18 => ?_)
        · replace h := itp h c_18
          exact hb_77 s_9 H locs ls h hB (lv_sub hl [0] rfl)
        · replace h := itn h c_18
          refine lv_aload_n hx hb dX12_copy_42 rfl (lv_at hl 0 rfl) ?_
          refine R_get (v := .ref (gL g 50)) hx hb ht ui_X12 hown hK hB (by decide) (cell_8 rfl) rfl 10 (by decide) (ht _ tw926) (fun _ h9 => h9) rfl dX12_copy_43 ?_
          refine lv_iload_n hx hb dX12_copy_46 rfl (lv_at hl 1 rfl) ?_
          refine R_iald hx hb hK hB rfl (inb_eq q_12) dX12_copy_47 ?_
          refine lv_iconst (v := 1) hx hb dX12_copy_48 (by decide) ?_
          refine lv_icmp_ne (tgt := 84) hx hb dX12_copy_49 (by decide) (fun c_19 => ?_) (fun c_19 => ?_)
          · replace h := itn h c_19
            exact hb_84 a1 a2 a3 a4 a5 s_9 H locs ls h hB (lv_sub hl [0, 1, 2, 3, 4, 5] rfl)
          · replace h := itp h c_19
            refine lv_aload_n hx hb dX12_copy_52 rfl (lv_at hl 0 rfl) ?_
            refine R_get (v := .ref (gL g 50)) hx hb ht ui_X12 hown hK hB (by decide) (cell_8 rfl) rfl 10 (by decide) (ht _ tw926) (fun _ h9 => h9) rfl dX12_copy_53 ?_
            refine lv_iload_n hx hb dX12_copy_56 rfl (lv_at hl 2 rfl) ?_
            refine R_iald hx hb hK hB rfl (inb_eq q_17) dX12_copy_57 ?_
            refine lv_iconst (v := 1) hx hb dX12_copy_58 (by decide) ?_
            refine lv_icmp_ne (tgt := 84) hx hb dX12_copy_59 (by decide) (fun c_44 => ?_) (fun c_44 => ?_)
            · replace h := itn h c_44
              exact hb_84 a1 a2 a3 a4 a5 s_9 H locs ls h hB (lv_sub hl [0, 1, 2, 3, 4, 5] rfl)
            · replace h := itp h c_44
              refine lv_aload_n hx hb dX12_copy_62 rfl (lv_at hl 0 rfl) ?_
              refine R_get (v := .ref (gL g 51)) hx hb ht ui_X12 hown hK hB (by decide) (cell_8 rfl) rfl 11 (by decide) (ht _ tw927) (fun _ h9 => h9) rfl dX12_copy_63 ?_
              refine lv_iload_n hx hb dX12_copy_66 rfl (lv_at hl 1 rfl) ?_
              refine R_iald hx hb hK hB rfl (inb_eq q_12) dX12_copy_67 ?_
              refine lv_aload_n hx hb dX12_copy_68 rfl (lv_at hl 0 rfl) ?_
              refine R_get (v := .ref (gL g 51)) hx hb ht ui_X12 hown hK hB (by decide) (cell_8 rfl) rfl 11 (by decide) (ht _ tw927) (fun _ h9 => h9) rfl dX12_copy_69 ?_
              refine lv_iload_n hx hb dX12_copy_72 rfl (lv_at hl 2 rfl) ?_
              refine R_iald hx hb hK hB rfl (inb_eq q_17) dX12_copy_73 ?_
              refine lv_icmp_eq (tgt := 84) hx hb dX12_copy_74 (by decide) (fun c_45 => ?_) (fun c_45 => ?_)
              · replace h := itp h c_45
                exact hb_84 a1 a2 a3 a4 a5 s_9 H locs ls h hB (lv_sub hl [0, 1, 2, 3, 4, 5] rfl)
              · replace h := itn h c_45
                exact hb_77 s_9 H locs ls h hB (lv_sub hl [0] rfl)
    · replace h := itp h c_11
      exact hb_16 s_9 H locs ls h hB (lv_sub hl [0] rfl)
def f_X12_element (a1 : Int32) (a2 : Int32) (σ : Hp) : Option (Int64 × Hp) := b2 (f_X12_isShelf a1 σ) (fun r_1 s_2 => if r_1 = 0 then some ((0 : Int64), s_2) else ck (inb a1 8 = true) (if (hI s_2 50 a1.toNatClampNeg) = (1 : Int32) then if a2 < 0 then some ((0 : Int64), s_2) else if (hI s_2 52 a1.toNatClampNeg) ≤ a2 then some ((0 : Int64), s_2) else ck (inb (((160 : Int32) * a1) + a2) 1280 = true) (some ((hJ s_2 54 (((160 : Int32) * a1) + a2).toNatClampNeg), s_2)) else some ((0 : Int64), s_2)))
set_option maxHeartbeats 4000000 in
set_option maxRecDepth 100000 in
theorem c_X12_element (l : Launch) (g : tG) (P : Nat → Nat) (σ : Hp) (a1 : Int32) (a2 : Int32) (sz : Nat) {r : Int64} {τ : Hp} (h : f_X12_element a1 a2 σ = some (r, τ)) : Met l yX12_element (Cond.code yX12_element cX12_element 3 (some .long) :: tblG) ({ frames := 1, cells := 0, slots := 0, locals := 21 }) (va_Pc [.ref (gL g 40), .int a1, .int a2] (tPre g P σ sz)) (tQ (some (.long r)) (tPost g P τ (va_A (wC g P σ) sz)) (va_A (wC g P σ) sz)) 0 0 (va_A (wC g P σ) sz) := by
  refine T_start (B := fun A => tPost g P τ A) (by decide) (Nat.le_of_ble_eq_true rfl) ?_
  intro p e s m args below meth c ls0 A hx hb hml hr hown hlocks ht hnm hK hZ hA hB0 hl0
  suffices hmain : ∀ (H : Heap) (locs : List Loc) (ls : Array Slot), tB g P σ A s.heap H locs → lv_has ls 3 [(0, .ref (gL g 40)), (1, .int a1), (2, .int a2)] → WQ p l e { frames := 1, cells := 0, slots := 0, locals := 21 } s m args below meth c g P A (some (.long r)) τ H locs (F0 m 0 ls []) from hmain _ _ ls0 hB0 hl0
  intro H locs ls hB hl
  unfold f_X12_element at h
  refine lv_aload_n hx hb dX12_element_0 rfl (lv_at hl 0 rfl) ?_
  refine lv_iload_n hx hb dX12_element_1 rfl (lv_at hl 1 rfl) ?_
  replace h := b2_eq h; obtain ⟨r_1, s_2, hc_3, h⟩ := h
  refine R_call (rest := []) [.int r_1] (R_runV (n := 1) (As := [.int a1]) ⟨hx, hb, hml, hown, ht⟩ (fun _ h9 => h9) hK hZ hA hB (c_X12_isShelf l g P σ a1 H.size hc_3) (R_recv hK hB (by decide) (cell_8 rfl) rfl) tw1038 tw1035 tw1037 pw25 tw5 ⟨by decide, by decide, by decide⟩ rfl rfl ⟨Nat.le_of_ble_eq_true rfl, Nat.le_of_ble_eq_true rfl⟩ rfl hl.1 rfl (Nat.le_of_ble_eq_true rfl) dX12_element_2 ⟨Nat.zero_le _, Nat.zero_le _⟩) hB hA rfl (fun H locs hB => ?_)
  refine lv_if_eq (tgt := 47) hx hb dX12_element_5 (by decide) (fun c_4 => ?_) (fun c_4 => ?_)
  · replace h := itp h c_4
    refine lv_lconst (v := 0) hx hb dX12_element_47 (by decide) ?_
    obtain ⟨rfl, rfl⟩ := Prod.mk.inj (Option.some.inj h)
    exact W.lret hx hb hr (R_end hB) hB.2.2.2.2 dX12_element_48
  · replace h := itn h c_4
    refine lv_aload_n hx hb dX12_element_8 rfl (lv_at hl 0 rfl) ?_
    refine R_get (v := .ref (gL g 50)) hx hb ht ui_X12 hown hK hB (by decide) (cell_8 rfl) rfl 10 (by decide) (ht _ tw926) (fun _ h9 => h9) rfl dX12_element_9 ?_
    refine lv_iload_n hx hb dX12_element_12 rfl (lv_at hl 1 rfl) ?_
    replace h := ck_eq h; obtain ⟨q_5, h⟩ := h
    refine R_iald hx hb hK hB rfl (inb_eq q_5) dX12_element_13 ?_
    refine lv_iconst (v := 1) hx hb dX12_element_14 (by decide) ?_
    refine lv_icmp_ne (tgt := 47) hx hb dX12_element_15 (by decide) (fun c_6 => ?_) (fun c_6 => ?_)
    · replace h := itn h c_6
      refine lv_lconst (v := 0) hx hb dX12_element_47 (by decide) ?_
      obtain ⟨rfl, rfl⟩ := Prod.mk.inj (Option.some.inj h)
      exact W.lret hx hb hr (R_end hB) hB.2.2.2.2 dX12_element_48
    · replace h := itp h c_6
      refine lv_iload_n hx hb dX12_element_18 rfl (lv_at hl 2 rfl) ?_
      refine lv_if_lt (tgt := 47) hx hb dX12_element_19 (by decide) (fun c_7 => ?_) (fun c_7 => ?_)
      · replace h := itp h c_7
        refine lv_lconst (v := 0) hx hb dX12_element_47 (by decide) ?_
        obtain ⟨rfl, rfl⟩ := Prod.mk.inj (Option.some.inj h)
        exact W.lret hx hb hr (R_end hB) hB.2.2.2.2 dX12_element_48
      · replace h := itn h c_7
        refine lv_iload_n hx hb dX12_element_22 rfl (lv_at hl 2 rfl) ?_
        refine lv_aload_n hx hb dX12_element_23 rfl (lv_at hl 0 rfl) ?_
        refine R_get (v := .ref (gL g 52)) hx hb ht ui_X12 hown hK hB (by decide) (cell_8 rfl) rfl 12 (by decide) (ht _ tw928) (fun _ h9 => h9) rfl dX12_element_24 ?_
        refine lv_iload_n hx hb dX12_element_27 rfl (lv_at hl 1 rfl) ?_
        refine R_iald hx hb hK hB rfl (inb_eq q_5) dX12_element_28 ?_
        refine lv_icmp_ge (tgt := 47) hx hb dX12_element_29 (by decide) (fun c_8 => ?_) (fun c_8 => ?_)
        · replace h := itp h c_8
          refine lv_lconst (v := 0) hx hb dX12_element_47 (by decide) ?_
          obtain ⟨rfl, rfl⟩ := Prod.mk.inj (Option.some.inj h)
          exact W.lret hx hb hr (R_end hB) hB.2.2.2.2 dX12_element_48
        · replace h := itn h c_8
          refine lv_aload_n hx hb dX12_element_32 rfl (lv_at hl 0 rfl) ?_
          refine R_get (v := .ref (gL g 54)) hx hb ht ui_X12 hown hK hB (by decide) (cell_8 rfl) rfl 14 (by decide) (ht _ tw930) (fun _ h9 => h9) rfl dX12_element_33 ?_
          refine lv_sipush (v := 160) hx hb dX12_element_36 (by decide) ?_
          refine lv_iload_n hx hb dX12_element_39 rfl (lv_at hl 1 rfl) ?_
          refine lv_imul hx hb dX12_element_40 ?_
          refine lv_iload_n hx hb dX12_element_41 rfl (lv_at hl 2 rfl) ?_
          refine lv_iadd hx hb dX12_element_42 ?_
          replace h := ck_eq h; obtain ⟨q_9, h⟩ := h
          refine R_lald hx hb hK hB rfl (inb_eq q_9) dX12_element_43 ?_
          refine lv_goto (tgt := 48) hx hb dX12_element_44 (by decide) ?_
          obtain ⟨rfl, rfl⟩ := Prod.mk.inj (Option.some.inj h)
          exact W.lret hx hb hr (R_end hB) hB.2.2.2.2 dX12_element_48
def f_X12_show_b21 (σ1 : Hp) : Option (Int32 × Hp) := b2 (f_X12_no (-1 : Int32) σ1) (fun r_5 s_6 => some (r_5, s_6))
def f_X12_show_b42 (x1 : Int32) (x2 : Int32) (xt0 : Int32) (xt1 : Int32) (σ1 : Hp) : Option (Int32 × Hp) := ck (inb xt1 8 = true) (ck (inb x1 8 = true) (if x2 = (-1 : Int32) then some ((0 : Int32), (sI (sI σ1 50 xt1.toNatClampNeg xt0) 53 x1.toNatClampNeg x2)) else some ((1 : Int32), (sI (sI σ1 50 xt1.toNatClampNeg xt0) 53 x1.toNatClampNeg x2))))
def f_X12_show_b27 (x1 : Int32) (x2 : Int32) (σ1 : Hp) : Option (Int32 × Hp) := if x2 = (-1 : Int32) then f_X12_show_b42 x1 x2 (0 : Int32) x1 σ1 else f_X12_show_b42 x1 x2 (2 : Int32) x1 σ1
def f_X12_show (a1 : Int32) (a2 : Int32) (σ : Hp) : Option (Int32 × Hp) := b2 (f_X12_isShelf a1 σ) (fun r_1 s_2 => if r_1 = 0 then f_X12_show_b21 s_2 else if a2 = (-1 : Int32) then f_X12_show_b27 a1 a2 s_2 else b2 (f_X12_isLaw a2 s_2) (fun r_13 s_14 => if r_13 = 0 then f_X12_show_b21 s_14 else f_X12_show_b27 a1 a2 s_14))
set_option maxHeartbeats 4000000 in
set_option maxRecDepth 100000 in
theorem c_X12_show (l : Launch) (g : tG) (P : Nat → Nat) (σ : Hp) (a1 : Int32) (a2 : Int32) (sz : Nat) {r : Int32} {τ : Hp} (h : f_X12_show a1 a2 σ = some (r, τ)) : Met l yX12_show (Cond.code yX12_show cX12_show 3 (some .int) :: tblG) ({ frames := 1, cells := 0, slots := 0, locals := 21 }) (va_Pc [.ref (gL g 40), .int a1, .int a2] (tPre g P σ sz)) (tQ (some (.int r)) (tPost g P τ (va_A (wC g P σ) sz)) (va_A (wC g P σ) sz)) 0 0 (va_A (wC g P σ) sz) := by
  refine T_start (B := fun A => tPost g P τ A) (by decide) (Nat.le_of_ble_eq_true rfl) ?_
  intro p e s m args below meth c ls0 A hx hb hml hr hown hlocks ht hnm hK hZ hA hB0 hl0
  have hb_21 : ∀ (σ1 : Hp) (H : Heap) (locs : List Loc) (ls : Array Slot), f_X12_show_b21 σ1 = some (r, τ) → tB g P σ1 A s.heap H locs → lv_has ls 3 [(0, .ref (gL g 40))] → WQ p l e { frames := 1, cells := 0, slots := 0, locals := 21 } s m args below meth c g P A (some (.int r)) τ H locs (F0 m 21 ls []) := by
    intro σ1 H locs ls h hB hl
    unfold f_X12_show_b21 at h
    refine lv_aload_n hx hb dX12_show_21 rfl (lv_at hl 0 rfl) ?_
    refine lv_iconst (v := -1) hx hb dX12_show_22 (by decide) ?_
    replace h := b2_eq h; obtain ⟨r_5, s_6, hc_7, h⟩ := h
    refine R_call (rest := []) [.int r_5] (R_runV (n := 1) (As := [.int (-1 : Int32)]) ⟨hx, hb, hml, hown, ht⟩ (fun _ h9 => h9) hK hZ hA hB (c_X12_no l g P σ1 (-1 : Int32) H.size hc_7) (R_recv hK hB (by decide) (cell_8 rfl) rfl) tw1042 tw1039 tw1041 pw26 tw5 ⟨by decide, by decide, by decide⟩ rfl rfl ⟨Nat.le_of_ble_eq_true rfl, Nat.le_of_ble_eq_true rfl⟩ rfl hl.1 rfl (Nat.le_of_ble_eq_true rfl) dX12_show_23 ⟨Nat.zero_le _, Nat.zero_le _⟩) hB hA rfl (fun H locs hB => ?_)
    obtain ⟨rfl, rfl⟩ := Prod.mk.inj (Option.some.inj h)
    exact W.iret hx hb hr (R_end hB) hB.2.2.2.2 dX12_show_26
  have hb_42 : ∀ (x1 : Int32) (x2 : Int32) (xt0 : Int32) (xt1 : Int32) (σ1 : Hp) (H : Heap) (locs : List Loc) (ls : Array Slot), f_X12_show_b42 x1 x2 xt0 xt1 σ1 = some (r, τ) → tB g P σ1 A s.heap H locs → lv_has ls 3 [(0, .ref (gL g 40)), (1, .int x1), (2, .int x2)] → WQ p l e { frames := 1, cells := 0, slots := 0, locals := 21 } s m args below meth c g P A (some (.int r)) τ H locs (F0 m 42 ls [.int xt0, .int xt1, .ref (gL g 50)]) := by
    intro x1 x2 xt0 xt1 σ1 H locs ls h hB hl
    unfold f_X12_show_b42 at h
    replace h := ck_eq h; obtain ⟨q_10, h⟩ := h
    refine R_iast hx hb hK hB rfl (inb_eq q_10) dX12_show_42 (fun H locs hB => ?_)
    refine lv_aload_n hx hb dX12_show_43 rfl (lv_at hl 0 rfl) ?_
    refine R_get (v := .ref (gL g 53)) hx hb ht ui_X12 hown hK hB (by decide) (cell_8 rfl) rfl 13 (by decide) (ht _ tw929) (fun _ h9 => h9) rfl dX12_show_44 ?_
    refine lv_iload_n hx hb dX12_show_47 rfl (lv_at hl 1 rfl) ?_
    refine lv_iload_n hx hb dX12_show_48 rfl (lv_at hl 2 rfl) ?_
    replace h := ck_eq h; obtain ⟨q_11, h⟩ := h
    refine R_iast hx hb hK hB rfl (inb_eq q_11) dX12_show_49 (fun H locs hB => ?_)
    refine lv_iload_n hx hb dX12_show_50 rfl (lv_at hl 2 rfl) ?_
    refine lv_iconst (v := -1) hx hb dX12_show_51 (by decide) ?_
    refine lv_icmp_ne (tgt := 59) hx hb dX12_show_52 (by decide) (fun c_12 => ?_) (fun c_12 => ?_)
    · replace h := itn h c_12
      refine lv_iconst (v := 1) hx hb dX12_show_59 (by decide) ?_
      obtain ⟨rfl, rfl⟩ := Prod.mk.inj (Option.some.inj h)
      exact W.iret hx hb hr (R_end hB) hB.2.2.2.2 dX12_show_60
    · replace h := itp h c_12
      refine lv_iconst (v := 0) hx hb dX12_show_55 (by decide) ?_
      refine lv_goto (tgt := 60) hx hb dX12_show_56 (by decide) ?_
      obtain ⟨rfl, rfl⟩ := Prod.mk.inj (Option.some.inj h)
      exact W.iret hx hb hr (R_end hB) hB.2.2.2.2 dX12_show_60
  have hb_27 : ∀ (x1 : Int32) (x2 : Int32) (σ1 : Hp) (H : Heap) (locs : List Loc) (ls : Array Slot), f_X12_show_b27 x1 x2 σ1 = some (r, τ) → tB g P σ1 A s.heap H locs → lv_has ls 3 [(0, .ref (gL g 40)), (1, .int x1), (2, .int x2)] → WQ p l e { frames := 1, cells := 0, slots := 0, locals := 21 } s m args below meth c g P A (some (.int r)) τ H locs (F0 m 27 ls []) := by
    intro x1 x2 σ1 H locs ls h hB hl
    unfold f_X12_show_b27 at h
    refine lv_aload_n hx hb dX12_show_27 rfl (lv_at hl 0 rfl) ?_
    refine R_get (v := .ref (gL g 50)) hx hb ht ui_X12 hown hK hB (by decide) (cell_8 rfl) rfl 10 (by decide) (ht _ tw926) (fun _ h9 => h9) rfl dX12_show_28 ?_
    refine lv_iload_n hx hb dX12_show_31 rfl (lv_at hl 1 rfl) ?_
    refine lv_iload_n hx hb dX12_show_32 rfl (lv_at hl 2 rfl) ?_
    refine lv_iconst (v := -1) hx hb dX12_show_33 (by decide) ?_
    refine lv_icmp_ne (tgt := 41) hx hb dX12_show_34 (by decide) (fun c_9 => ?_) (fun c_9 => ?_)
    · replace h := itn h c_9
      refine lv_iconst (v := 2) hx hb dX12_show_41 (by decide) ?_
      exact hb_42 x1 x2 (2 : Int32) x1 σ1 H locs ls h hB (lv_sub hl [0, 1, 2] rfl)
    · replace h := itp h c_9
      refine lv_iconst (v := 0) hx hb dX12_show_37 (by decide) ?_
      refine lv_goto (tgt := 42) hx hb dX12_show_38 (by decide) ?_
      exact hb_42 x1 x2 (0 : Int32) x1 σ1 H locs ls h hB (lv_sub hl [0, 1, 2] rfl)
  suffices hmain : ∀ (H : Heap) (locs : List Loc) (ls : Array Slot), tB g P σ A s.heap H locs → lv_has ls 3 [(0, .ref (gL g 40)), (1, .int a1), (2, .int a2)] → WQ p l e { frames := 1, cells := 0, slots := 0, locals := 21 } s m args below meth c g P A (some (.int r)) τ H locs (F0 m 0 ls []) from hmain _ _ ls0 hB0 hl0
  intro H locs ls hB hl
  unfold f_X12_show at h
  refine lv_aload_n hx hb dX12_show_0 rfl (lv_at hl 0 rfl) ?_
  refine lv_iload_n hx hb dX12_show_1 rfl (lv_at hl 1 rfl) ?_
  replace h := b2_eq h; obtain ⟨r_1, s_2, hc_3, h⟩ := h
  refine R_call (rest := []) [.int r_1] (R_runV (n := 1) (As := [.int a1]) ⟨hx, hb, hml, hown, ht⟩ (fun _ h9 => h9) hK hZ hA hB (c_X12_isShelf l g P σ a1 H.size hc_3) (R_recv hK hB (by decide) (cell_8 rfl) rfl) tw1038 tw1035 tw1037 pw25 tw5 ⟨by decide, by decide, by decide⟩ rfl rfl ⟨Nat.le_of_ble_eq_true rfl, Nat.le_of_ble_eq_true rfl⟩ rfl hl.1 rfl (Nat.le_of_ble_eq_true rfl) dX12_show_2 ⟨Nat.zero_le _, Nat.zero_le _⟩) hB hA rfl (fun H locs hB => ?_)
  refine lv_if_eq (tgt := 21) hx hb dX12_show_5 (by decide) (fun c_4 => ?_) (fun c_4 => ?_)
  · replace h := itp h c_4
    exact hb_21 s_2 H locs ls h hB (lv_sub hl [0] rfl)
  · replace h := itn h c_4
    refine lv_iload_n hx hb dX12_show_8 rfl (lv_at hl 2 rfl) ?_
    refine lv_iconst (v := -1) hx hb dX12_show_9 (by decide) ?_
    refine lv_icmp_eq (tgt := 27) hx hb dX12_show_10 (by decide) (fun c_8 => ?_) (fun c_8 => ?_)
    · replace h := itp h c_8
      exact hb_27 a1 a2 s_2 H locs ls h hB (lv_sub hl [0, 1, 2] rfl)
    · replace h := itn h c_8
      refine lv_aload_n hx hb dX12_show_13 rfl (lv_at hl 0 rfl) ?_
      refine lv_iload_n hx hb dX12_show_14 rfl (lv_at hl 2 rfl) ?_
      replace h := b2_eq h; obtain ⟨r_13, s_14, hc_15, h⟩ := h
      refine R_call (rest := []) [.int r_13] (R_runV (n := 1) (As := [.int a2]) ⟨hx, hb, hml, hown, ht⟩ (fun _ h9 => h9) hK hZ hA hB (c_X12_isLaw l g P s_2 a2 H.size hc_15) (R_recv hK hB (by decide) (cell_8 rfl) rfl) tw1062 tw1059 tw1061 pw27 tw5 ⟨by decide, by decide, by decide⟩ rfl rfl ⟨Nat.le_of_ble_eq_true rfl, Nat.le_of_ble_eq_true rfl⟩ rfl hl.1 rfl (Nat.le_of_ble_eq_true rfl) dX12_show_15 ⟨Nat.zero_le _, Nat.zero_le _⟩) hB hA rfl (fun H locs hB => ?_)
      refine lv_if_ne (tgt := 27) hx hb dX12_show_18 (by decide) (fun c_16 => ?_) (fun c_16 => ?_)
      · replace h := itn h c_16
        exact hb_27 a1 a2 s_14 H locs ls h hB (lv_sub hl [0, 1, 2] rfl)
      · replace h := itp h c_16
        exact hb_21 s_14 H locs ls h hB (lv_sub hl [0] rfl)
def f_X12_holds (a1 : Int32) (σ : Hp) : Option (Int32 × Hp) := b2 (f_X12_isShelf a1 σ) (fun r_1 s_2 => if r_1 = 0 then some ((-1 : Int32), s_2) else ck (inb a1 8 = true) (if (hI s_2 50 a1.toNatClampNeg) = 0 then some ((-1 : Int32), s_2) else if (hI s_2 50 a1.toNatClampNeg) = (1 : Int32) then some (((100 : Int32) + (hI s_2 51 a1.toNatClampNeg)), s_2) else some ((hI s_2 53 a1.toNatClampNeg), s_2)))
set_option maxHeartbeats 4000000 in
set_option maxRecDepth 100000 in
theorem c_X12_holds (l : Launch) (g : tG) (P : Nat → Nat) (σ : Hp) (a1 : Int32) (sz : Nat) {r : Int32} {τ : Hp} (h : f_X12_holds a1 σ = some (r, τ)) : Met l yX12_holds (Cond.code yX12_holds cX12_holds 2 (some .int) :: tblG) ({ frames := 1, cells := 0, slots := 0, locals := 21 }) (va_Pc [.ref (gL g 40), .int a1] (tPre g P σ sz)) (tQ (some (.int r)) (tPost g P τ (va_A (wC g P σ) sz)) (va_A (wC g P σ) sz)) 0 0 (va_A (wC g P σ) sz) := by
  refine T_start (B := fun A => tPost g P τ A) (by decide) (Nat.le_of_ble_eq_true rfl) ?_
  intro p e s m args below meth c ls0 A hx hb hml hr hown hlocks ht hnm hK hZ hA hB0 hl0
  suffices hmain : ∀ (H : Heap) (locs : List Loc) (ls : Array Slot), tB g P σ A s.heap H locs → lv_has ls 2 [(0, .ref (gL g 40)), (1, .int a1)] → WQ p l e { frames := 1, cells := 0, slots := 0, locals := 21 } s m args below meth c g P A (some (.int r)) τ H locs (F0 m 0 ls []) from hmain _ _ ls0 hB0 hl0
  intro H locs ls hB hl
  unfold f_X12_holds at h
  refine lv_aload_n hx hb dX12_holds_0 rfl (lv_at hl 0 rfl) ?_
  refine lv_iload_n hx hb dX12_holds_1 rfl (lv_at hl 1 rfl) ?_
  replace h := b2_eq h; obtain ⟨r_1, s_2, hc_3, h⟩ := h
  refine R_call (rest := []) [.int r_1] (R_runV (n := 1) (As := [.int a1]) ⟨hx, hb, hml, hown, ht⟩ (fun _ h9 => h9) hK hZ hA hB (c_X12_isShelf l g P σ a1 H.size hc_3) (R_recv hK hB (by decide) (cell_8 rfl) rfl) tw1038 tw1035 tw1037 pw25 tw5 ⟨by decide, by decide, by decide⟩ rfl rfl ⟨Nat.le_of_ble_eq_true rfl, Nat.le_of_ble_eq_true rfl⟩ rfl hl.1 rfl (Nat.le_of_ble_eq_true rfl) dX12_holds_2 ⟨Nat.zero_le _, Nat.zero_le _⟩) hB hA rfl (fun H locs hB => ?_)
  refine lv_if_eq (tgt := 17) hx hb dX12_holds_5 (by decide) (fun c_4 => ?_) (fun c_4 => ?_)
  · replace h := itp h c_4
    refine lv_iconst (v := -1) hx hb dX12_holds_17 (by decide) ?_
    obtain ⟨rfl, rfl⟩ := Prod.mk.inj (Option.some.inj h)
    exact W.iret hx hb hr (R_end hB) hB.2.2.2.2 dX12_holds_18
  · replace h := itn h c_4
    refine lv_aload_n hx hb dX12_holds_8 rfl (lv_at hl 0 rfl) ?_
    refine R_get (v := .ref (gL g 50)) hx hb ht ui_X12 hown hK hB (by decide) (cell_8 rfl) rfl 10 (by decide) (ht _ tw926) (fun _ h9 => h9) rfl dX12_holds_9 ?_
    refine lv_iload_n hx hb dX12_holds_12 rfl (lv_at hl 1 rfl) ?_
    replace h := ck_eq h; obtain ⟨q_5, h⟩ := h
    refine R_iald hx hb hK hB rfl (inb_eq q_5) dX12_holds_13 ?_
    refine lv_if_ne (tgt := 19) hx hb dX12_holds_14 (by decide) (fun c_6 => ?_) (fun c_6 => ?_)
    · replace h := itn h c_6
      refine lv_aload_n hx hb dX12_holds_19 rfl (lv_at hl 0 rfl) ?_
      refine R_get (v := .ref (gL g 50)) hx hb ht ui_X12 hown hK hB (by decide) (cell_8 rfl) rfl 10 (by decide) (ht _ tw926) (fun _ h9 => h9) rfl dX12_holds_20 ?_
      refine lv_iload_n hx hb dX12_holds_23 rfl (lv_at hl 1 rfl) ?_
      refine R_iald hx hb hK hB rfl (inb_eq q_5) dX12_holds_24 ?_
      refine lv_iconst (v := 1) hx hb dX12_holds_25 (by decide) ?_
      refine lv_icmp_ne (tgt := 41) hx hb dX12_holds_26 (by decide) (fun c_7 => ?_) (fun c_7 => ?_)
      · replace h := itn h c_7
        refine lv_aload_n hx hb dX12_holds_41 rfl (lv_at hl 0 rfl) ?_
        refine R_get (v := .ref (gL g 53)) hx hb ht ui_X12 hown hK hB (by decide) (cell_8 rfl) rfl 13 (by decide) (ht _ tw929) (fun _ h9 => h9) rfl dX12_holds_42 ?_
        refine lv_iload_n hx hb dX12_holds_45 rfl (lv_at hl 1 rfl) ?_
        refine R_iald hx hb hK hB rfl (inb_eq q_5) dX12_holds_46 ?_
        obtain ⟨rfl, rfl⟩ := Prod.mk.inj (Option.some.inj h)
        exact W.iret hx hb hr (R_end hB) hB.2.2.2.2 dX12_holds_47
      · replace h := itp h c_7
        refine lv_bipush (v := 100) hx hb dX12_holds_29 (by decide) ?_
        refine lv_aload_n hx hb dX12_holds_31 rfl (lv_at hl 0 rfl) ?_
        refine R_get (v := .ref (gL g 51)) hx hb ht ui_X12 hown hK hB (by decide) (cell_8 rfl) rfl 11 (by decide) (ht _ tw927) (fun _ h9 => h9) rfl dX12_holds_32 ?_
        refine lv_iload_n hx hb dX12_holds_35 rfl (lv_at hl 1 rfl) ?_
        refine R_iald hx hb hK hB rfl (inb_eq q_5) dX12_holds_36 ?_
        refine lv_iadd hx hb dX12_holds_37 ?_
        refine lv_goto (tgt := 47) hx hb dX12_holds_38 (by decide) ?_
        obtain ⟨rfl, rfl⟩ := Prod.mk.inj (Option.some.inj h)
        exact W.iret hx hb hr (R_end hB) hB.2.2.2.2 dX12_holds_47
    · replace h := itp h c_6
      refine lv_iconst (v := -1) hx hb dX12_holds_17 (by decide) ?_
      obtain ⟨rfl, rfl⟩ := Prod.mk.inj (Option.some.inj h)
      exact W.iret hx hb hr (R_end hB) hB.2.2.2.2 dX12_holds_18
def f_X12_greatest_b39 (x1 : Int32) (x2 : Int32) (x3 : Int32) (σ1 : Hp) : Option ((Int32 × Int32 × Hp) ⊕ (Int32 × Hp)) := some (.inl (x2, (x3 + 1), σ1))
def f_X12_greatest_t4 (x1 : Int32) (x2 : Int32) (x3 : Int32) (σ1 : Hp) : Option ((Int32 × Int32 × Hp) ⊕ (Int32 × Hp)) := if (hI σ1 40 2) ≤ x3 then ex (some (x2, σ1)) else ck (inb (((10 : Int32) * x1) + x3) 60 = true) (ck (inb (((10 : Int32) * x1) + x2) 60 = true) (if (hI σ1 48 (((10 : Int32) * x1) + x3).toNatClampNeg) ≤ (hI σ1 48 (((10 : Int32) * x1) + x2).toNatClampNeg) then f_X12_greatest_b39 x1 x2 x3 σ1 else f_X12_greatest_b39 x1 x3 x3 σ1))
def f_X12_greatest_s4 (x1 : Int32) (v : (Int32 × Int32 × Hp)) : Option ((Int32 × Int32 × Hp) ⊕ (Int32 × Hp)) := f_X12_greatest_t4 x1 v.1 v.2.1 v.2.2
def f_X12_greatest (a1 : Int32) (σ : Hp) : Option (Int32 × Hp) := iter (f_X12_greatest_s4 a1) fuel ((0 : Int32), (1 : Int32), σ)
set_option maxHeartbeats 4000000 in
set_option maxRecDepth 100000 in
theorem c_X12_greatest (l : Launch) (g : tG) (P : Nat → Nat) (σ : Hp) (a1 : Int32) (sz : Nat) {r : Int32} {τ : Hp} (h : f_X12_greatest a1 σ = some (r, τ)) : Met l yX12_greatest (Cond.code yX12_greatest cX12_greatest 4 (some .int) :: tblG) ({ frames := 0, cells := 0, slots := 0, locals := 0 }) (va_Pc [.ref (gL g 40), .int a1] (tPre g P σ sz)) (tQ (some (.int r)) (tPost g P τ (va_A (wC g P σ) sz)) (va_A (wC g P σ) sz)) 0 0 (va_A (wC g P σ) sz) := by
  refine T_start (B := fun A => tPost g P τ A) (by decide) (Nat.le_of_ble_eq_true rfl) ?_
  intro p e s m args below meth c ls0 A hx hb hml hr hown hlocks ht hnm hK hZ hA hB0 hl0
  have hL_4 : ∀ (x1 : Int32) (n : Nat) (x2 : Int32) (x3 : Int32) (σ1 : Hp) (H : Heap) (locs : List Loc) (ls : Array Slot), iter (f_X12_greatest_s4 x1) n (x2, x3, σ1) = some (r, τ) → tB g P σ1 A s.heap H locs → lv_has ls 4 [(0, .ref (gL g 40)), (1, .int x1), (2, .int x2), (3, .int x3)] → WQ p l e { frames := 0, cells := 0, slots := 0, locals := 0 } s m args below meth c g P A (some (.int r)) τ H locs (F0 m 4 ls []) := by
    intro x1 n
    induction n with
    | zero =>
      intro x2 x3 σ1 H locs ls h hB hl
      exact (iter_0 h).elim
    | succ n ih1 =>
      intro x2 x3 σ1 H locs ls h hB hl
      replace h := iter_eq h; obtain ⟨z1, hh1, hx1⟩ := h
      have hb_39 : ∀ (x2 : Int32) (x3 : Int32) (σ1 : Hp) (H : Heap) (locs : List Loc) (ls : Array Slot), f_X12_greatest_b39 x1 x2 x3 σ1 = some z1 → tB g P σ1 A s.heap H locs → lv_has ls 4 [(0, .ref (gL g 40)), (1, .int x1), (2, .int x2), (3, .int x3)] → WQ p l e { frames := 0, cells := 0, slots := 0, locals := 0 } s m args below meth c g P A (some (.int r)) τ H locs (F0 m 39 ls []) := by
        intro x2 x3 σ1 H locs ls h hB hl
        unfold f_X12_greatest_b39 at h
        refine lv_iinc (v := x3 + 1) (lv' := [(3, .int (x3 + 1)), (0, .ref (gL g 40)), (1, .int x1), (2, .int x2)]) hx hb dX12_greatest_39 hl (k := 3) rfl rfl (by decide) rfl (fun ls hl => ?_)
        refine lv_goto (tgt := 4) hx hb dX12_greatest_42 (by decide) ?_
        obtain rfl := Option.some.inj h
        exact ih1 x2 (x3 + 1) σ1 H locs ls hx1 hB (lv_sub hl [1, 2, 3, 0] rfl)
      have h : f_X12_greatest_t4 x1 x2 x3 σ1 = some z1 := hh1
      clear hh1
      unfold f_X12_greatest_t4 at h
      refine lv_iload_n hx hb dX12_greatest_4 rfl (lv_at hl 3 rfl) ?_
      refine lv_aload_n hx hb dX12_greatest_5 rfl (lv_at hl 0 rfl) ?_
      refine R_get (v := .int (hI σ1 40 2)) hx hb ht ui_X12 hown hK hB (by decide) (cell_8 rfl) rfl 2 (by decide) (ht _ tw918) (fun _ h9 => h9) rfl dX12_greatest_6 ?_
      refine lv_icmp_ge (tgt := 45) hx hb dX12_greatest_9 (by decide) (fun c_1 => ?_) (fun c_1 => ?_)
      · replace h := itp h c_1
        replace h := ex_eq h; obtain ⟨b1, h, hz1⟩ := h
        subst hz1
        have hz1 := (itk_inr hx1).symm
        subst hz1
        refine lv_iload_n hx hb dX12_greatest_45 rfl (lv_at hl 2 rfl) ?_
        obtain ⟨rfl, rfl⟩ := Prod.mk.inj (Option.some.inj h)
        exact W.iret hx hb hr (R_end hB) hB.2.2.2.2 dX12_greatest_46
      · replace h := itn h c_1
        refine lv_aload_n hx hb dX12_greatest_12 rfl (lv_at hl 0 rfl) ?_
        refine R_get (v := .ref (gL g 48)) hx hb ht ui_X12 hown hK hB (by decide) (cell_8 rfl) rfl 8 (by decide) (ht _ tw924) (fun _ h9 => h9) rfl dX12_greatest_13 ?_
        refine lv_bipush (v := 10) hx hb dX12_greatest_16 (by decide) ?_
        refine lv_iload_n hx hb dX12_greatest_18 rfl (lv_at hl 1 rfl) ?_
        refine lv_imul hx hb dX12_greatest_19 ?_
        refine lv_iload_n hx hb dX12_greatest_20 rfl (lv_at hl 3 rfl) ?_
        refine lv_iadd hx hb dX12_greatest_21 ?_
        replace h := ck_eq h; obtain ⟨q_2, h⟩ := h
        refine R_iald hx hb hK hB rfl (inb_eq q_2) dX12_greatest_22 ?_
        refine lv_aload_n hx hb dX12_greatest_23 rfl (lv_at hl 0 rfl) ?_
        refine R_get (v := .ref (gL g 48)) hx hb ht ui_X12 hown hK hB (by decide) (cell_8 rfl) rfl 8 (by decide) (ht _ tw924) (fun _ h9 => h9) rfl dX12_greatest_24 ?_
        refine lv_bipush (v := 10) hx hb dX12_greatest_27 (by decide) ?_
        refine lv_iload_n hx hb dX12_greatest_29 rfl (lv_at hl 1 rfl) ?_
        refine lv_imul hx hb dX12_greatest_30 ?_
        refine lv_iload_n hx hb dX12_greatest_31 rfl (lv_at hl 2 rfl) ?_
        refine lv_iadd hx hb dX12_greatest_32 ?_
        replace h := ck_eq h; obtain ⟨q_3, h⟩ := h
        refine R_iald hx hb hK hB rfl (inb_eq q_3) dX12_greatest_33 ?_
        refine lv_icmp_le (tgt := 39) hx hb dX12_greatest_34 (by decide) (fun c_4 => ?_) (fun c_4 => ?_)
        · replace h := itp h c_4
          exact hb_39 x2 x3 σ1 H locs ls h hB (lv_sub hl [0, 1, 2, 3] rfl)
        · replace h := itn h c_4
          refine lv_iload_n hx hb dX12_greatest_37 rfl (lv_at hl 3 rfl) ?_
          refine lv_istore_n (lv' := [(2, .int x3), (0, .ref (gL g 40)), (1, .int x1), (3, .int x3)]) hx hb dX12_greatest_38 rfl hl (by decide) rfl (fun ls hl => ?_)
          exact hb_39 x3 x3 σ1 H locs ls h hB (lv_sub hl [1, 2, 0, 3] rfl)
  suffices hmain : ∀ (H : Heap) (locs : List Loc) (ls : Array Slot), tB g P σ A s.heap H locs → lv_has ls 4 [(0, .ref (gL g 40)), (1, .int a1)] → WQ p l e { frames := 0, cells := 0, slots := 0, locals := 0 } s m args below meth c g P A (some (.int r)) τ H locs (F0 m 0 ls []) from hmain _ _ ls0 hB0 hl0
  intro H locs ls hB hl
  unfold f_X12_greatest at h
  refine lv_iconst (v := 0) hx hb dX12_greatest_0 (by decide) ?_
  refine lv_istore_n (lv' := [(2, .int (0 : Int32)), (0, .ref (gL g 40)), (1, .int a1)]) hx hb dX12_greatest_1 rfl hl (by decide) rfl (fun ls hl => ?_)
  refine lv_iconst (v := 1) hx hb dX12_greatest_2 (by decide) ?_
  refine lv_istore_n (lv' := [(3, .int (1 : Int32)), (2, .int (0 : Int32)), (0, .ref (gL g 40)), (1, .int a1)]) hx hb dX12_greatest_3 rfl hl (by decide) rfl (fun ls hl => ?_)
  exact hL_4 a1 fuel (0 : Int32) (1 : Int32) σ H locs ls h hB (lv_sub hl [2, 3, 1, 0] rfl)
def f_X12_turnedOf_t5 (x3 : Int64) (x5 : Int64) (σ1 : Hp) : Option ((Int64 × Int64 × Hp) ⊕ (Int64 × Hp)) := if (lg_cmp x5 (0 : Int64)) ≤ 0 then ex (some (x3, σ1)) else ck (¬ ((hI σ1 40 2).toInt64) = 0) (some (.inl (((x3 * (hI σ1 40 2).toInt64) + (x5 - x5 / (hI σ1 40 2).toInt64 * (hI σ1 40 2).toInt64)), (x5 / (hI σ1 40 2).toInt64), σ1)))
def f_X12_turnedOf_s5 (v : (Int64 × Int64 × Hp)) : Option ((Int64 × Int64 × Hp) ⊕ (Int64 × Hp)) := f_X12_turnedOf_t5 v.1 v.2.1 v.2.2
def f_X12_turnedOf (a1 : Int64) (σ : Hp) : Option (Int64 × Hp) := iter (f_X12_turnedOf_s5) fuel ((0 : Int64), a1, σ)
set_option maxHeartbeats 4000000 in
set_option maxRecDepth 100000 in
theorem c_X12_turnedOf (l : Launch) (g : tG) (P : Nat → Nat) (σ : Hp) (a1 : Int64) (sz : Nat) {r : Int64} {τ : Hp} (h : f_X12_turnedOf a1 σ = some (r, τ)) : Met l yX12_turnedOf (Cond.code yX12_turnedOf cX12_turnedOf 7 (some .long) :: tblG) ({ frames := 0, cells := 0, slots := 0, locals := 0 }) (va_Pc [.ref (gL g 40), .long a1] (tPre g P σ sz)) (tQ (some (.long r)) (tPost g P τ (va_A (wC g P σ) sz)) (va_A (wC g P σ) sz)) 0 0 (va_A (wC g P σ) sz) := by
  refine T_start (B := fun A => tPost g P τ A) (by decide) (Nat.le_of_ble_eq_true rfl) ?_
  intro p e s m args below meth c ls0 A hx hb hml hr hown hlocks ht hnm hK hZ hA hB0 hl0
  have hL_5 : ∀ (n : Nat) (x3 : Int64) (x5 : Int64) (σ1 : Hp) (H : Heap) (locs : List Loc) (ls : Array Slot), iter (f_X12_turnedOf_s5) n (x3, x5, σ1) = some (r, τ) → tB g P σ1 A s.heap H locs → lv_has ls 7 [(0, .ref (gL g 40)), (3, .long x3), (5, .long x5)] → WQ p l e { frames := 0, cells := 0, slots := 0, locals := 0 } s m args below meth c g P A (some (.long r)) τ H locs (F0 m 5 ls []) := by
    intro n
    induction n with
    | zero =>
      intro x3 x5 σ1 H locs ls h hB hl
      exact (iter_0 h).elim
    | succ n ih1 =>
      intro x3 x5 σ1 H locs ls h hB hl
      replace h := iter_eq h; obtain ⟨z1, hh1, hx1⟩ := h
      have h : f_X12_turnedOf_t5 x3 x5 σ1 = some z1 := hh1
      clear hh1
      unfold f_X12_turnedOf_t5 at h
      refine lv_lload hx hb dX12_turnedOf_5 (lv_at hl 2 rfl) ?_
      refine lv_lconst (v := 0) hx hb dX12_turnedOf_7 (by decide) ?_
      refine W.lcmp hx hb dX12_turnedOf_8 ?_
      refine lv_if_le (tgt := 42) hx hb dX12_turnedOf_9 (by decide) (fun c_3 => ?_) (fun c_3 => ?_)
      · replace h := itp h c_3
        replace h := ex_eq h; obtain ⟨b1, h, hz1⟩ := h
        subst hz1
        have hz1 := (itk_inr hx1).symm
        subst hz1
        refine lv_lload_n hx hb dX12_turnedOf_42 rfl (lv_at hl 1 rfl) ?_
        obtain ⟨rfl, rfl⟩ := Prod.mk.inj (Option.some.inj h)
        exact W.lret hx hb hr (R_end hB) hB.2.2.2.2 dX12_turnedOf_43
      · replace h := itn h c_3
        refine lv_lload_n hx hb dX12_turnedOf_12 rfl (lv_at hl 1 rfl) ?_
        refine lv_aload_n hx hb dX12_turnedOf_13 rfl (lv_at hl 0 rfl) ?_
        refine R_get (v := .int (hI σ1 40 2)) hx hb ht ui_X12 hown hK hB (by decide) (cell_8 rfl) rfl 2 (by decide) (ht _ tw918) (fun _ h9 => h9) rfl dX12_turnedOf_14 ?_
        refine lv_i2l (v := (hI σ1 40 2).toInt64) hx hb dX12_turnedOf_17 rfl ?_
        refine lv_lmul hx hb dX12_turnedOf_18 ?_
        refine lv_lload hx hb dX12_turnedOf_19 (lv_at hl 2 rfl) ?_
        refine lv_aload_n hx hb dX12_turnedOf_21 rfl (lv_at hl 0 rfl) ?_
        refine R_get (v := .int (hI σ1 40 2)) hx hb ht ui_X12 hown hK hB (by decide) (cell_8 rfl) rfl 2 (by decide) (ht _ tw918) (fun _ h9 => h9) rfl dX12_turnedOf_22 ?_
        refine lv_i2l (v := (hI σ1 40 2).toInt64) hx hb dX12_turnedOf_25 rfl ?_
        replace h := ck_eq h; obtain ⟨q_4, h⟩ := h
        refine lv_lrem hx hb dX12_turnedOf_26 q_4 ?_
        refine lv_ladd hx hb dX12_turnedOf_27 ?_
        refine lv_lstore_n (lv' := [(3, .long ((x3 * (hI σ1 40 2).toInt64) + (x5 - x5 / (hI σ1 40 2).toInt64 * (hI σ1 40 2).toInt64))), (0, .ref (gL g 40)), (5, .long x5)]) hx hb dX12_turnedOf_28 rfl hl (by decide) rfl (fun ls hl => ?_)
        refine lv_lload hx hb dX12_turnedOf_29 (lv_at hl 2 rfl) ?_
        refine lv_aload_n hx hb dX12_turnedOf_31 rfl (lv_at hl 1 rfl) ?_
        refine R_get (v := .int (hI σ1 40 2)) hx hb ht ui_X12 hown hK hB (by decide) (cell_8 rfl) rfl 2 (by decide) (ht _ tw918) (fun _ h9 => h9) rfl dX12_turnedOf_32 ?_
        refine lv_i2l (v := (hI σ1 40 2).toInt64) hx hb dX12_turnedOf_35 rfl ?_
        refine lv_ldiv hx hb dX12_turnedOf_36 q_4 ?_
        refine lv_lstore (lv' := [(5, .long (x5 / (hI σ1 40 2).toInt64)), (3, .long ((x3 * (hI σ1 40 2).toInt64) + (x5 - x5 / (hI σ1 40 2).toInt64 * (hI σ1 40 2).toInt64))), (0, .ref (gL g 40))]) hx hb dX12_turnedOf_37 hl (by decide) rfl (fun ls hl => ?_)
        refine lv_goto (tgt := 5) hx hb dX12_turnedOf_39 (by decide) ?_
        obtain rfl := Option.some.inj h
        exact ih1 ((x3 * (hI σ1 40 2).toInt64) + (x5 - x5 / (hI σ1 40 2).toInt64 * (hI σ1 40 2).toInt64)) (x5 / (hI σ1 40 2).toInt64) σ1 H locs ls hx1 hB (lv_sub hl [2, 1, 0] rfl)
  suffices hmain : ∀ (H : Heap) (locs : List Loc) (ls : Array Slot), tB g P σ A s.heap H locs → lv_has ls 7 [(0, .ref (gL g 40)), (1, .long a1)] → WQ p l e { frames := 0, cells := 0, slots := 0, locals := 0 } s m args below meth c g P A (some (.long r)) τ H locs (F0 m 0 ls []) from hmain _ _ ls0 hB0 hl0
  intro H locs ls hB hl
  unfold f_X12_turnedOf at h
  refine lv_lconst (v := 0) hx hb dX12_turnedOf_0 (by decide) ?_
  refine lv_lstore_n (lv' := [(3, .long (0 : Int64)), (0, .ref (gL g 40)), (1, .long a1)]) hx hb dX12_turnedOf_1 rfl hl (by decide) rfl (fun ls hl => ?_)
  refine lv_lload_n hx hb dX12_turnedOf_2 rfl (lv_at hl 2 rfl) ?_
  refine lv_lstore (lv' := [(5, .long a1), (3, .long (0 : Int64)), (0, .ref (gL g 40)), (1, .long a1)]) hx hb dX12_turnedOf_3 hl (by decide) rfl (fun ls hl => ?_)
  exact hL_5 fuel (0 : Int64) a1 σ H locs ls h hB (lv_sub hl [2, 1, 0] rfl)
def f_X12_figures_t5 (x3 : Int32) (x4 : Int64) (σ1 : Hp) : Option ((Int32 × Int64 × Hp) ⊕ (Int32 × Hp)) := ck (¬ ((hI σ1 40 2).toInt64) = 0) (ck (inb x3 64 = true) (ck (¬ ((hI (sI σ1 67 x3.toNatClampNeg ((x4 - x4 / (hI σ1 40 2).toInt64 * (hI σ1 40 2).toInt64).toInt32)) 40 2).toInt64) = 0) (if 0 < (lg_cmp (x4 / (hI (sI σ1 67 x3.toNatClampNeg ((x4 - x4 / (hI σ1 40 2).toInt64 * (hI σ1 40 2).toInt64).toInt32)) 40 2).toInt64) (0 : Int64)) then some (.inl ((x3 + 1), (x4 / (hI (sI σ1 67 x3.toNatClampNeg ((x4 - x4 / (hI σ1 40 2).toInt64 * (hI σ1 40 2).toInt64).toInt32)) 40 2).toInt64), (sI σ1 67 x3.toNatClampNeg ((x4 - x4 / (hI σ1 40 2).toInt64 * (hI σ1 40 2).toInt64).toInt32)))) else ex (some ((x3 + 1), (sI σ1 67 x3.toNatClampNeg ((x4 - x4 / (hI σ1 40 2).toInt64 * (hI σ1 40 2).toInt64).toInt32)))))))
def f_X12_figures_s5 (v : (Int32 × Int64 × Hp)) : Option ((Int32 × Int64 × Hp) ⊕ (Int32 × Hp)) := f_X12_figures_t5 v.1 v.2.1 v.2.2
def f_X12_figures (a1 : Int64) (σ : Hp) : Option (Int32 × Hp) := iter (f_X12_figures_s5) fuel ((0 : Int32), a1, σ)
set_option maxHeartbeats 4000000 in
set_option maxRecDepth 100000 in
theorem c_X12_figures (l : Launch) (g : tG) (P : Nat → Nat) (σ : Hp) (a1 : Int64) (sz : Nat) {r : Int32} {τ : Hp} (h : f_X12_figures a1 σ = some (r, τ)) : Met l yX12_figures (Cond.code yX12_figures cX12_figures 6 (some .int) :: tblG) ({ frames := 0, cells := 0, slots := 0, locals := 0 }) (va_Pc [.ref (gL g 40), .long a1] (tPre g P σ sz)) (tQ (some (.int r)) (tPost g P τ (va_A (wC g P σ) sz)) (va_A (wC g P σ) sz)) 0 0 (va_A (wC g P σ) sz) := by
  refine T_start (B := fun A => tPost g P τ A) (by decide) (Nat.le_of_ble_eq_true rfl) ?_
  intro p e s m args below meth c ls0 A hx hb hml hr hown hlocks ht hnm hK hZ hA hB0 hl0
  have hL_5 : ∀ (n : Nat) (x3 : Int32) (x4 : Int64) (σ1 : Hp) (H : Heap) (locs : List Loc) (ls : Array Slot), iter (f_X12_figures_s5) n (x3, x4, σ1) = some (r, τ) → tB g P σ1 A s.heap H locs → lv_has ls 6 [(0, .ref (gL g 40)), (3, .int x3), (4, .long x4)] → WQ p l e { frames := 0, cells := 0, slots := 0, locals := 0 } s m args below meth c g P A (some (.int r)) τ H locs (F0 m 5 ls []) := by
    intro n
    induction n with
    | zero =>
      intro x3 x4 σ1 H locs ls h hB hl
      exact (iter_0 h).elim
    | succ n ih1 =>
      intro x3 x4 σ1 H locs ls h hB hl
      replace h := iter_eq h; obtain ⟨z1, hh1, hx1⟩ := h
      have h : f_X12_figures_t5 x3 x4 σ1 = some z1 := hh1
      clear hh1
      unfold f_X12_figures_t5 at h
      refine lv_aload_n hx hb dX12_figures_5 rfl (lv_at hl 0 rfl) ?_
      refine R_get (v := .ref (gL g 67)) hx hb ht ui_X12 hown hK hB (by decide) (cell_8 rfl) rfl 27 (by decide) (ht _ tw943) (fun _ h9 => h9) rfl dX12_figures_6 ?_
      refine lv_iload_n hx hb dX12_figures_9 rfl (lv_at hl 1 rfl) ?_
      refine lv_lload hx hb dX12_figures_10 (lv_at hl 2 rfl) ?_
      refine lv_aload_n hx hb dX12_figures_12 rfl (lv_at hl 0 rfl) ?_
      refine R_get (v := .int (hI σ1 40 2)) hx hb ht ui_X12 hown hK hB (by decide) (cell_8 rfl) rfl 2 (by decide) (ht _ tw918) (fun _ h9 => h9) rfl dX12_figures_13 ?_
      refine lv_i2l (v := (hI σ1 40 2).toInt64) hx hb dX12_figures_16 rfl ?_
      replace h := ck_eq h; obtain ⟨q_3, h⟩ := h
      refine lv_lrem hx hb dX12_figures_17 q_3 ?_
      refine lv_l2i (v := (x4 - x4 / (hI σ1 40 2).toInt64 * (hI σ1 40 2).toInt64).toInt32) hx hb dX12_figures_18 rfl ?_
      replace h := ck_eq h; obtain ⟨q_4, h⟩ := h
      refine R_iast hx hb hK hB rfl (inb_eq q_4) dX12_figures_19 (fun H locs hB => ?_)
      refine lv_iinc (v := x3 + 1) (lv' := [(3, .int (x3 + 1)), (0, .ref (gL g 40)), (4, .long x4)]) hx hb dX12_figures_20 hl (k := 1) rfl rfl (by decide) rfl (fun ls hl => ?_)
      refine lv_lload hx hb dX12_figures_23 (lv_at hl 2 rfl) ?_
      refine lv_aload_n hx hb dX12_figures_25 rfl (lv_at hl 1 rfl) ?_
      refine R_get (v := .int (hI (sI σ1 67 x3.toNatClampNeg ((x4 - x4 / (hI σ1 40 2).toInt64 * (hI σ1 40 2).toInt64).toInt32)) 40 2)) hx hb ht ui_X12 hown hK hB (by decide) (cell_8 rfl) rfl 2 (by decide) (ht _ tw918) (fun _ h9 => h9) rfl dX12_figures_26 ?_
      refine lv_i2l (v := (hI (sI σ1 67 x3.toNatClampNeg ((x4 - x4 / (hI σ1 40 2).toInt64 * (hI σ1 40 2).toInt64).toInt32)) 40 2).toInt64) hx hb dX12_figures_29 rfl ?_
      replace h := ck_eq h; obtain ⟨q_5, h⟩ := h
      refine lv_ldiv hx hb dX12_figures_30 q_5 ?_
      refine lv_lstore (lv' := [(4, .long (x4 / (hI (sI σ1 67 x3.toNatClampNeg ((x4 - x4 / (hI σ1 40 2).toInt64 * (hI σ1 40 2).toInt64).toInt32)) 40 2).toInt64)), (3, .int (x3 + 1)), (0, .ref (gL g 40))]) hx hb dX12_figures_31 hl (by decide) rfl (fun ls hl => ?_)
      refine lv_lload hx hb dX12_figures_33 (lv_at hl 0 rfl) ?_
      refine lv_lconst (v := 0) hx hb dX12_figures_35 (by decide) ?_
      refine W.lcmp hx hb dX12_figures_36 ?_
      refine lv_if_gt (tgt := 5) hx hb dX12_figures_37 (by decide) (fun c_6 => ?_) (fun c_6 => ?_)
      · replace h := itp h c_6
        obtain rfl := Option.some.inj h
        exact ih1 (x3 + 1) (x4 / (hI (sI σ1 67 x3.toNatClampNeg ((x4 - x4 / (hI σ1 40 2).toInt64 * (hI σ1 40 2).toInt64).toInt32)) 40 2).toInt64) (sI σ1 67 x3.toNatClampNeg ((x4 - x4 / (hI σ1 40 2).toInt64 * (hI σ1 40 2).toInt64).toInt32)) H locs ls hx1 hB (lv_sub hl [2, 1, 0] rfl)
      · replace h := itn h c_6
        replace h := ex_eq h; obtain ⟨b1, h, hz1⟩ := h
        subst hz1
        have hz1 := (itk_inr hx1).symm
        subst hz1
        refine lv_iload_n hx hb dX12_figures_40 rfl (lv_at hl 1 rfl) ?_
        obtain ⟨rfl, rfl⟩ := Prod.mk.inj (Option.some.inj h)
        exact W.iret hx hb hr (R_end hB) hB.2.2.2.2 dX12_figures_41
  suffices hmain : ∀ (H : Heap) (locs : List Loc) (ls : Array Slot), tB g P σ A s.heap H locs → lv_has ls 6 [(0, .ref (gL g 40)), (1, .long a1)] → WQ p l e { frames := 0, cells := 0, slots := 0, locals := 0 } s m args below meth c g P A (some (.int r)) τ H locs (F0 m 0 ls []) from hmain _ _ ls0 hB0 hl0
  intro H locs ls hB hl
  unfold f_X12_figures at h
  refine lv_iconst (v := 0) hx hb dX12_figures_0 (by decide) ?_
  refine lv_istore_n (lv' := [(3, .int (0 : Int32)), (0, .ref (gL g 40)), (1, .long a1)]) hx hb dX12_figures_1 rfl hl (by decide) rfl (fun ls hl => ?_)
  refine lv_lload_n hx hb dX12_figures_2 rfl (lv_at hl 2 rfl) ?_
  refine lv_lstore (lv' := [(4, .long a1), (3, .int (0 : Int32)), (0, .ref (gL g 40)), (1, .long a1)]) hx hb dX12_figures_3 hl (by decide) rfl (fun ls hl => ?_)
  exact hL_5 fuel (0 : Int32) a1 σ H locs ls h hB (lv_sub hl [2, 1, 0] rfl)
def f_X12_ordered_t105 (x3 : Int32) (x4 : Int64) (x6 : Int64) (x8 : Int32) (σ1 : Hp) : Option ((Int64 × Int64 × Int32 × Hp) ⊕ (Int64 × Hp)) := if x3 ≤ x8 then ex (some ((x6 - x4), σ1)) else ck (inb x8 64 = true) (ck (inb ((x3 - (1 : Int32)) - x8) 64 = true) (some (.inl (((x4 * (hI σ1 40 2).toInt64) + (hI σ1 67 x8.toNatClampNeg).toInt64), ((x6 * (hI σ1 40 2).toInt64) + (hI σ1 67 ((x3 - (1 : Int32)) - x8).toNatClampNeg).toInt64), (x8 + 1), σ1))))
def f_X12_ordered_s105 (x3 : Int32) (v : (Int64 × Int64 × Int32 × Hp)) : Option ((Int64 × Int64 × Int32 × Hp) ⊕ (Int64 × Hp)) := f_X12_ordered_t105 x3 v.1 v.2.1 v.2.2.1 v.2.2.2
def f_X12_ordered_b84 (x3 : Int32) (x4 : Int32) (x5 : Int32) (σ1 : Hp) : Option ((Int32 × Hp) ⊕ ((Int32 × Hp) ⊕ (Int64 × Hp))) := some (.inl ((x5 + 1), σ1))
def f_X12_ordered_t18 (x3 : Int32) (x4 : Int32) (x5 : Int32) (σ1 : Hp) : Option ((Int32 × Hp) ⊕ ((Int32 × Hp) ⊕ (Int64 × Hp))) := if (x3 - x4) ≤ (x5 + (1 : Int32)) then ex (some (.inl ((x4 + 1), σ1))) else ck (inb x5 64 = true) (ck (inb (x5 + (1 : Int32)) 64 = true) (if (hI σ1 67 x5.toNatClampNeg) ≤ (hI σ1 67 (x5 + (1 : Int32)).toNatClampNeg) then f_X12_ordered_b84 x3 x4 x5 σ1 else f_X12_ordered_b84 x3 x4 x5 (sI (sI σ1 67 x5.toNatClampNeg (hI σ1 67 (x5 + (1 : Int32)).toNatClampNeg)) 67 (x5 + (1 : Int32)).toNatClampNeg (hI σ1 67 x5.toNatClampNeg))))
def f_X12_ordered_s18 (x3 : Int32) (x4 : Int32) (v : (Int32 × Hp)) : Option ((Int32 × Hp) ⊕ ((Int32 × Hp) ⊕ (Int64 × Hp))) := f_X12_ordered_t18 x3 x4 v.1 v.2
def f_X12_ordered_t9 (x3 : Int32) (x4 : Int32) (σ1 : Hp) : Option ((Int32 × Hp) ⊕ (Int64 × Hp)) := if x3 ≤ x4 then ex (iter (f_X12_ordered_s105 x3) fuel ((0 : Int64), (0 : Int64), (0 : Int32), σ1)) else iter (f_X12_ordered_s18 x3 x4) fuel ((0 : Int32), σ1)
def f_X12_ordered_s9 (x3 : Int32) (v : (Int32 × Hp)) : Option ((Int32 × Hp) ⊕ (Int64 × Hp)) := f_X12_ordered_t9 x3 v.1 v.2
def f_X12_ordered (a1 : Int64) (σ : Hp) : Option (Int64 × Hp) := b2 (f_X12_figures a1 σ) (fun r_1 s_2 => iter (f_X12_ordered_s9 r_1) fuel ((0 : Int32), s_2))
set_option maxHeartbeats 4000000 in
set_option maxRecDepth 100000 in
theorem c_X12_ordered (l : Launch) (g : tG) (P : Nat → Nat) (σ : Hp) (a1 : Int64) (sz : Nat) {r : Int64} {τ : Hp} (h : f_X12_ordered a1 σ = some (r, τ)) : Met l yX12_ordered (Cond.code yX12_ordered cX12_ordered 9 (some .long) :: tblG) ({ frames := 1, cells := 0, slots := 0, locals := 25 }) (va_Pc [.ref (gL g 40), .long a1] (tPre g P σ sz)) (tQ (some (.long r)) (tPost g P τ (va_A (wC g P σ) sz)) (va_A (wC g P σ) sz)) 0 0 (va_A (wC g P σ) sz) := by
  refine T_start (B := fun A => tPost g P τ A) (by decide) (Nat.le_of_ble_eq_true rfl) ?_
  intro p e s m args below meth c ls0 A hx hb hml hr hown hlocks ht hnm hK hZ hA hB0 hl0
  have hL_105 : ∀ (x3 : Int32) (n : Nat) (x4 : Int64) (x6 : Int64) (x8 : Int32) (σ1 : Hp) (H : Heap) (locs : List Loc) (ls : Array Slot), iter (f_X12_ordered_s105 x3) n (x4, x6, x8, σ1) = some (r, τ) → tB g P σ1 A s.heap H locs → lv_has ls 9 [(0, .ref (gL g 40)), (3, .int x3), (4, .long x4), (6, .long x6), (8, .int x8)] → WQ p l e { frames := 1, cells := 0, slots := 0, locals := 25 } s m args below meth c g P A (some (.long r)) τ H locs (F0 m 105 ls []) := by
    intro x3 n
    induction n with
    | zero =>
      intro x4 x6 x8 σ1 H locs ls h hB hl
      exact (iter_0 h).elim
    | succ n ih1 =>
      intro x4 x6 x8 σ1 H locs ls h hB hl
      replace h := iter_eq h; obtain ⟨z1, hh1, hx1⟩ := h
      have h : f_X12_ordered_t105 x3 x4 x6 x8 σ1 = some z1 := hh1
      clear hh1
      unfold f_X12_ordered_t105 at h
      refine lv_iload hx hb dX12_ordered_105 (lv_at hl 4 rfl) ?_
      refine lv_iload_n hx hb dX12_ordered_107 rfl (lv_at hl 1 rfl) ?_
      refine lv_icmp_ge (tgt := 159) hx hb dX12_ordered_108 (by decide) (fun c_5 => ?_) (fun c_5 => ?_)
      · replace h := itp h c_5
        replace h := ex_eq h; obtain ⟨b1, h, hz1⟩ := h
        subst hz1
        have hz1 := (itk_inr hx1).symm
        subst hz1
        refine lv_lload hx hb dX12_ordered_159 (lv_at hl 3 rfl) ?_
        refine lv_lload hx hb dX12_ordered_161 (lv_at hl 2 rfl) ?_
        refine lv_lsub hx hb dX12_ordered_163 ?_
        obtain ⟨rfl, rfl⟩ := Prod.mk.inj (Option.some.inj h)
        exact W.lret hx hb hr (R_end hB) hB.2.2.2.2 dX12_ordered_164
      · replace h := itn h c_5
        refine lv_lload hx hb dX12_ordered_111 (lv_at hl 2 rfl) ?_
        refine lv_aload_n hx hb dX12_ordered_113 rfl (lv_at hl 0 rfl) ?_
        refine R_get (v := .int (hI σ1 40 2)) hx hb ht ui_X12 hown hK hB (by decide) (cell_8 rfl) rfl 2 (by decide) (ht _ tw918) (fun _ h9 => h9) rfl dX12_ordered_114 ?_
        refine lv_i2l (v := (hI σ1 40 2).toInt64) hx hb dX12_ordered_117 rfl ?_
        refine lv_lmul hx hb dX12_ordered_118 ?_
        refine lv_aload_n hx hb dX12_ordered_119 rfl (lv_at hl 0 rfl) ?_
        refine R_get (v := .ref (gL g 67)) hx hb ht ui_X12 hown hK hB (by decide) (cell_8 rfl) rfl 27 (by decide) (ht _ tw943) (fun _ h9 => h9) rfl dX12_ordered_120 ?_
        refine lv_iload hx hb dX12_ordered_123 (lv_at hl 4 rfl) ?_
        replace h := ck_eq h; obtain ⟨q_6, h⟩ := h
        refine R_iald hx hb hK hB rfl (inb_eq q_6) dX12_ordered_125 ?_
        refine lv_i2l (v := (hI σ1 67 x8.toNatClampNeg).toInt64) hx hb dX12_ordered_126 rfl ?_
        refine lv_ladd hx hb dX12_ordered_127 ?_
        refine lv_lstore (lv' := [(4, .long ((x4 * (hI σ1 40 2).toInt64) + (hI σ1 67 x8.toNatClampNeg).toInt64)), (0, .ref (gL g 40)), (3, .int x3), (6, .long x6), (8, .int x8)]) hx hb dX12_ordered_128 hl (by decide) rfl (fun ls hl => ?_)
        refine lv_lload hx hb dX12_ordered_130 (lv_at hl 3 rfl) ?_
        refine lv_aload_n hx hb dX12_ordered_132 rfl (lv_at hl 1 rfl) ?_
        refine R_get (v := .int (hI σ1 40 2)) hx hb ht ui_X12 hown hK hB (by decide) (cell_8 rfl) rfl 2 (by decide) (ht _ tw918) (fun _ h9 => h9) rfl dX12_ordered_133 ?_
        refine lv_i2l (v := (hI σ1 40 2).toInt64) hx hb dX12_ordered_136 rfl ?_
        refine lv_lmul hx hb dX12_ordered_137 ?_
        refine lv_aload_n hx hb dX12_ordered_138 rfl (lv_at hl 1 rfl) ?_
        refine R_get (v := .ref (gL g 67)) hx hb ht ui_X12 hown hK hB (by decide) (cell_8 rfl) rfl 27 (by decide) (ht _ tw943) (fun _ h9 => h9) rfl dX12_ordered_139 ?_
        refine lv_iload_n hx hb dX12_ordered_142 rfl (lv_at hl 2 rfl) ?_
        refine lv_iconst (v := 1) hx hb dX12_ordered_143 (by decide) ?_
        refine lv_isub hx hb dX12_ordered_144 ?_
        refine lv_iload hx hb dX12_ordered_145 (lv_at hl 4 rfl) ?_
        refine lv_isub hx hb dX12_ordered_147 ?_
        replace h := ck_eq h; obtain ⟨q_7, h⟩ := h
        refine R_iald hx hb hK hB rfl (inb_eq q_7) dX12_ordered_148 ?_
        refine lv_i2l (v := (hI σ1 67 ((x3 - (1 : Int32)) - x8).toNatClampNeg).toInt64) hx hb dX12_ordered_149 rfl ?_
        refine lv_ladd hx hb dX12_ordered_150 ?_
        refine lv_lstore (lv' := [(6, .long ((x6 * (hI σ1 40 2).toInt64) + (hI σ1 67 ((x3 - (1 : Int32)) - x8).toNatClampNeg).toInt64)), (4, .long ((x4 * (hI σ1 40 2).toInt64) + (hI σ1 67 x8.toNatClampNeg).toInt64)), (0, .ref (gL g 40)), (3, .int x3), (8, .int x8)]) hx hb dX12_ordered_151 hl (by decide) rfl (fun ls hl => ?_)
        refine lv_iinc (v := x8 + 1) (lv' := [(8, .int (x8 + 1)), (6, .long ((x6 * (hI σ1 40 2).toInt64) + (hI σ1 67 ((x3 - (1 : Int32)) - x8).toNatClampNeg).toInt64)), (4, .long ((x4 * (hI σ1 40 2).toInt64) + (hI σ1 67 x8.toNatClampNeg).toInt64)), (0, .ref (gL g 40)), (3, .int x3)]) hx hb dX12_ordered_153 hl (k := 4) rfl rfl (by decide) rfl (fun ls hl => ?_)
        refine lv_goto (tgt := 105) hx hb dX12_ordered_156 (by decide) ?_
        obtain rfl := Option.some.inj h
        exact ih1 ((x4 * (hI σ1 40 2).toInt64) + (hI σ1 67 x8.toNatClampNeg).toInt64) ((x6 * (hI σ1 40 2).toInt64) + (hI σ1 67 ((x3 - (1 : Int32)) - x8).toNatClampNeg).toInt64) (x8 + 1) σ1 H locs ls hx1 hB (lv_sub hl [3, 4, 2, 1, 0] rfl)
  have hL_9 : ∀ (x3 : Int32) (n : Nat) (x4 : Int32) (σ1 : Hp) (H : Heap) (locs : List Loc) (ls : Array Slot), iter (f_X12_ordered_s9 x3) n (x4, σ1) = some (r, τ) → tB g P σ1 A s.heap H locs → lv_has ls 9 [(0, .ref (gL g 40)), (3, .int x3), (4, .int x4)] → WQ p l e { frames := 1, cells := 0, slots := 0, locals := 25 } s m args below meth c g P A (some (.long r)) τ H locs (F0 m 9 ls []) := by
    intro x3 n
    induction n with
    | zero =>
      intro x4 σ1 H locs ls h hB hl
      exact (iter_0 h).elim
    | succ n ih1 =>
      intro x4 σ1 H locs ls h hB hl
      replace h := iter_eq h; obtain ⟨z1, hh1, hx1⟩ := h
      have hL_18 : ∀ (x4 : Int32) (n : Nat) (x5 : Int32) (σ1 : Hp) (H : Heap) (locs : List Loc) (ls : Array Slot), iter (f_X12_ordered_s18 x3 x4) n (x5, σ1) = some z1 → tB g P σ1 A s.heap H locs → lv_has ls 9 [(0, .ref (gL g 40)), (3, .int x3), (4, .int x4), (5, .int x5)] → WQ p l e { frames := 1, cells := 0, slots := 0, locals := 25 } s m args below meth c g P A (some (.long r)) τ H locs (F0 m 18 ls []) := by
        intro x4 n
        induction n with
        | zero =>
          intro x5 σ1 H locs ls h hB hl
          exact (iter_0 h).elim
        | succ n ih2 =>
          intro x5 σ1 H locs ls h hB hl
          replace h := iter_eq h; obtain ⟨z2, hh2, hx2⟩ := h
          have hb_84 : ∀ (x5 : Int32) (σ1 : Hp) (H : Heap) (locs : List Loc) (ls : Array Slot), f_X12_ordered_b84 x3 x4 x5 σ1 = some z2 → tB g P σ1 A s.heap H locs → lv_has ls 9 [(0, .ref (gL g 40)), (3, .int x3), (4, .int x4), (5, .int x5)] → WQ p l e { frames := 1, cells := 0, slots := 0, locals := 25 } s m args below meth c g P A (some (.long r)) τ H locs (F0 m 84 ls []) := by
            intro x5 σ1 H locs ls h hB hl
            unfold f_X12_ordered_b84 at h
            refine lv_iinc (v := x5 + 1) (lv' := [(5, .int (x5 + 1)), (0, .ref (gL g 40)), (3, .int x3), (4, .int x4)]) hx hb dX12_ordered_84 hl (k := 3) rfl rfl (by decide) rfl (fun ls hl => ?_)
            refine lv_goto (tgt := 18) hx hb dX12_ordered_87 (by decide) ?_
            obtain rfl := Option.some.inj h
            exact ih2 (x5 + 1) σ1 H locs ls hx2 hB (lv_sub hl [1, 2, 3, 0] rfl)
          have h : f_X12_ordered_t18 x3 x4 x5 σ1 = some z2 := hh2
          clear hh2
          unfold f_X12_ordered_t18 at h
          refine lv_iload hx hb dX12_ordered_18 (lv_at hl 3 rfl) ?_
          refine lv_iconst (v := 1) hx hb dX12_ordered_20 (by decide) ?_
          refine lv_iadd hx hb dX12_ordered_21 ?_
          refine lv_iload_n hx hb dX12_ordered_22 rfl (lv_at hl 1 rfl) ?_
          refine lv_iload hx hb dX12_ordered_23 (lv_at hl 2 rfl) ?_
          refine lv_isub hx hb dX12_ordered_25 ?_
          refine lv_icmp_ge (tgt := 90) hx hb dX12_ordered_26 (by decide) (fun c_8 => ?_) (fun c_8 => ?_)
          · replace h := itp h c_8
            replace h := ex_eq h; obtain ⟨b2, h, hz2⟩ := h
            subst hz2
            have hz2 := (itk_inr hx2).symm
            subst hz2
            refine lv_iinc (v := x4 + 1) (lv' := [(4, .int (x4 + 1)), (0, .ref (gL g 40)), (3, .int x3), (5, .int x5)]) hx hb dX12_ordered_90 hl (k := 2) rfl rfl (by decide) rfl (fun ls hl => ?_)
            refine lv_goto (tgt := 9) hx hb dX12_ordered_93 (by decide) ?_
            obtain rfl := Option.some.inj h
            exact ih1 (x4 + 1) σ1 H locs ls hx1 hB (lv_sub hl [1, 2, 0] rfl)
          · replace h := itn h c_8
            refine lv_aload_n hx hb dX12_ordered_29 rfl (lv_at hl 0 rfl) ?_
            refine R_get (v := .ref (gL g 67)) hx hb ht ui_X12 hown hK hB (by decide) (cell_8 rfl) rfl 27 (by decide) (ht _ tw943) (fun _ h9 => h9) rfl dX12_ordered_30 ?_
            refine lv_iload hx hb dX12_ordered_33 (lv_at hl 3 rfl) ?_
            replace h := ck_eq h; obtain ⟨q_9, h⟩ := h
            refine R_iald hx hb hK hB rfl (inb_eq q_9) dX12_ordered_35 ?_
            refine lv_aload_n hx hb dX12_ordered_36 rfl (lv_at hl 0 rfl) ?_
            refine R_get (v := .ref (gL g 67)) hx hb ht ui_X12 hown hK hB (by decide) (cell_8 rfl) rfl 27 (by decide) (ht _ tw943) (fun _ h9 => h9) rfl dX12_ordered_37 ?_
            refine lv_iload hx hb dX12_ordered_40 (lv_at hl 3 rfl) ?_
            refine lv_iconst (v := 1) hx hb dX12_ordered_42 (by decide) ?_
            refine lv_iadd hx hb dX12_ordered_43 ?_
            replace h := ck_eq h; obtain ⟨q_10, h⟩ := h
            refine R_iald hx hb hK hB rfl (inb_eq q_10) dX12_ordered_44 ?_
            refine lv_icmp_le (tgt := 84) hx hb dX12_ordered_45 (by decide) (fun c_11 => ?_) (fun c_11 => ?_)
            · replace h := itp h c_11
              exact hb_84 x5 σ1 H locs ls h hB (lv_sub hl [0, 1, 2, 3] rfl)
            · replace h := itn h c_11
              refine lv_aload_n hx hb dX12_ordered_48 rfl (lv_at hl 0 rfl) ?_
              refine R_get (v := .ref (gL g 67)) hx hb ht ui_X12 hown hK hB (by decide) (cell_8 rfl) rfl 27 (by decide) (ht _ tw943) (fun _ h9 => h9) rfl dX12_ordered_49 ?_
              refine lv_iload hx hb dX12_ordered_52 (lv_at hl 3 rfl) ?_
              refine R_iald hx hb hK hB rfl (inb_eq q_9) dX12_ordered_54 ?_
              refine lv_istore (lv' := [(6, .int (hI σ1 67 x5.toNatClampNeg)), (0, .ref (gL g 40)), (3, .int x3), (4, .int x4), (5, .int x5)]) hx hb dX12_ordered_55 hl (by decide) rfl (fun ls hl => ?_)
              refine lv_aload_n hx hb dX12_ordered_57 rfl (lv_at hl 1 rfl) ?_
              refine R_get (v := .ref (gL g 67)) hx hb ht ui_X12 hown hK hB (by decide) (cell_8 rfl) rfl 27 (by decide) (ht _ tw943) (fun _ h9 => h9) rfl dX12_ordered_58 ?_
              refine lv_iload hx hb dX12_ordered_61 (lv_at hl 4 rfl) ?_
              refine lv_aload_n hx hb dX12_ordered_63 rfl (lv_at hl 1 rfl) ?_
              refine R_get (v := .ref (gL g 67)) hx hb ht ui_X12 hown hK hB (by decide) (cell_8 rfl) rfl 27 (by decide) (ht _ tw943) (fun _ h9 => h9) rfl dX12_ordered_64 ?_
              refine lv_iload hx hb dX12_ordered_67 (lv_at hl 4 rfl) ?_
              refine lv_iconst (v := 1) hx hb dX12_ordered_69 (by decide) ?_
              refine lv_iadd hx hb dX12_ordered_70 ?_
              refine R_iald hx hb hK hB rfl (inb_eq q_10) dX12_ordered_71 ?_
              refine R_iast hx hb hK hB rfl (inb_eq q_9) dX12_ordered_72 (fun H locs hB => ?_)
              refine lv_aload_n hx hb dX12_ordered_73 rfl (lv_at hl 1 rfl) ?_
              refine R_get (v := .ref (gL g 67)) hx hb ht ui_X12 hown hK hB (by decide) (cell_8 rfl) rfl 27 (by decide) (ht _ tw943) (fun _ h9 => h9) rfl dX12_ordered_74 ?_
              refine lv_iload hx hb dX12_ordered_77 (lv_at hl 4 rfl) ?_
              refine lv_iconst (v := 1) hx hb dX12_ordered_79 (by decide) ?_
              refine lv_iadd hx hb dX12_ordered_80 ?_
              refine lv_iload hx hb dX12_ordered_81 (lv_at hl 0 rfl) ?_
              refine R_iast hx hb hK hB rfl (inb_eq q_10) dX12_ordered_83 (fun H locs hB => ?_)
              exact hb_84 x5 (sI (sI σ1 67 x5.toNatClampNeg (hI σ1 67 (x5 + (1 : Int32)).toNatClampNeg)) 67 (x5 + (1 : Int32)).toNatClampNeg (hI σ1 67 x5.toNatClampNeg)) H locs ls h hB (lv_sub hl [1, 2, 3, 4] rfl)
      have h : f_X12_ordered_t9 x3 x4 σ1 = some z1 := hh1
      clear hh1
      unfold f_X12_ordered_t9 at h
      refine lv_iload hx hb dX12_ordered_9 (lv_at hl 2 rfl) ?_
      refine lv_iload_n hx hb dX12_ordered_11 rfl (lv_at hl 1 rfl) ?_
      refine lv_icmp_ge (tgt := 96) hx hb dX12_ordered_12 (by decide) (fun c_4 => ?_) (fun c_4 => ?_)
      · replace h := itp h c_4
        replace h := ex_eq h; obtain ⟨b1, h, hz1⟩ := h
        subst hz1
        have hz1 := (itk_inr hx1).symm
        subst hz1
        refine lv_lconst (v := 0) hx hb dX12_ordered_96 (by decide) ?_
        refine lv_lstore (lv' := [(4, .long (0 : Int64)), (0, .ref (gL g 40)), (3, .int x3)]) hx hb dX12_ordered_97 hl (by decide) rfl (fun ls hl => ?_)
        refine lv_lconst (v := 0) hx hb dX12_ordered_99 (by decide) ?_
        refine lv_lstore (lv' := [(6, .long (0 : Int64)), (4, .long (0 : Int64)), (0, .ref (gL g 40)), (3, .int x3)]) hx hb dX12_ordered_100 hl (by decide) rfl (fun ls hl => ?_)
        refine lv_iconst (v := 0) hx hb dX12_ordered_102 (by decide) ?_
        refine lv_istore (lv' := [(8, .int (0 : Int32)), (6, .long (0 : Int64)), (4, .long (0 : Int64)), (0, .ref (gL g 40)), (3, .int x3)]) hx hb dX12_ordered_103 hl (by decide) rfl (fun ls hl => ?_)
        exact hL_105 x3 fuel (0 : Int64) (0 : Int64) (0 : Int32) σ1 H locs ls h hB (lv_sub hl [3, 4, 2, 1, 0] rfl)
      · replace h := itn h c_4
        refine lv_iconst (v := 0) hx hb dX12_ordered_15 (by decide) ?_
        refine lv_istore (lv' := [(5, .int (0 : Int32)), (0, .ref (gL g 40)), (3, .int x3), (4, .int x4)]) hx hb dX12_ordered_16 hl (by decide) rfl (fun ls hl => ?_)
        exact hL_18 x4 fuel (0 : Int32) σ1 H locs ls h hB (lv_sub hl [1, 2, 3, 0] rfl)
  suffices hmain : ∀ (H : Heap) (locs : List Loc) (ls : Array Slot), tB g P σ A s.heap H locs → lv_has ls 9 [(0, .ref (gL g 40)), (1, .long a1)] → WQ p l e { frames := 1, cells := 0, slots := 0, locals := 25 } s m args below meth c g P A (some (.long r)) τ H locs (F0 m 0 ls []) from hmain _ _ ls0 hB0 hl0
  intro H locs ls hB hl
  unfold f_X12_ordered at h
  refine lv_aload_n hx hb dX12_ordered_0 rfl (lv_at hl 0 rfl) ?_
  refine lv_lload_n hx hb dX12_ordered_1 rfl (lv_at hl 1 rfl) ?_
  replace h := b2_eq h; obtain ⟨r_1, s_2, hc_3, h⟩ := h
  refine R_call (rest := []) [.int r_1] (R_runV (n := 1) (As := [.long a1]) ⟨hx, hb, hml, hown, ht⟩ (fun _ h9 => h9) hK hZ hA hB (c_X12_figures l g P σ a1 H.size hc_3) (R_recv hK hB (by decide) (cell_8 rfl) rfl) tw1087 tw1084 tw1086 pw31 tw5 ⟨by decide, by decide, by decide⟩ rfl rfl ⟨Nat.le_of_ble_eq_true rfl, Nat.le_of_ble_eq_true rfl⟩ rfl hl.1 rfl (Nat.le_of_ble_eq_true rfl) dX12_ordered_2 ⟨Nat.zero_le _, Nat.zero_le _⟩) hB hA rfl (fun H locs hB => ?_)
  refine lv_istore_n (lv' := [(3, .int r_1), (0, .ref (gL g 40)), (1, .long a1)]) hx hb dX12_ordered_5 rfl hl (by decide) rfl (fun ls hl => ?_)
  refine lv_iconst (v := 0) hx hb dX12_ordered_6 (by decide) ?_
  refine lv_istore (lv' := [(4, .int (0 : Int32)), (3, .int r_1), (0, .ref (gL g 40)), (1, .long a1)]) hx hb dX12_ordered_7 hl (by decide) rfl (fun ls hl => ?_)
  exact hL_9 r_1 fuel (0 : Int32) s_2 H locs ls h hB (lv_sub hl [2, 1, 0] rfl)
def f_X12_nextOf_b231 (x5 : Int64) (σ1 : Hp) : Option (Int64 × Hp) := if (lg_cmp x5 (999999999999999 : Int64)) ≤ 0 then some (x5, σ1) else some ((-1 : Int64), σ1)
def f_X12_nextOf_b222 (x1 : Int32) (x4 : Int32) (x7 : Int32) (x8 : Int32) (xt0 : Int64) (xt1 : Int64) (σ1 : Hp) : Option ((Int64 × Int32 × Hp) ⊕ (Int64 × Hp)) := some (.inl ((xt1 + xt0), (x8 + 1), σ1))
def f_X12_nextOf_t157 (x1 : Int32) (x4 : Int32) (x7 : Int32) (x5 : Int64) (x8 : Int32) (σ1 : Hp) : Option ((Int64 × Int32 × Hp) ⊕ (Int64 × Hp)) := if x7 ≤ x8 then ex (f_X12_nextOf_b231 x5 σ1) else ck (inb x8 64 = true) (if x4 = (2 : Int32) then f_X12_nextOf_b222 x1 x4 x7 x8 (((hI σ1 67 x8.toNatClampNeg) * (hI σ1 67 x8.toNatClampNeg)).toInt64) x5 σ1 else if x4 = (6 : Int32) then f_X12_nextOf_b222 x1 x4 x7 x8 ((((hI σ1 67 x8.toNatClampNeg) * (hI σ1 67 x8.toNatClampNeg)) * (hI σ1 67 x8.toNatClampNeg)).toInt64) x5 σ1 else ck (inb (((10 : Int32) * x1) + (hI σ1 67 x8.toNatClampNeg)) 60 = true) (f_X12_nextOf_b222 x1 x4 x7 x8 ((hI σ1 48 (((10 : Int32) * x1) + (hI σ1 67 x8.toNatClampNeg)).toNatClampNeg).toInt64) x5 σ1))
def f_X12_nextOf_s157 (x1 : Int32) (x4 : Int32) (x7 : Int32) (v : (Int64 × Int32 × Hp)) : Option ((Int64 × Int32 × Hp) ⊕ (Int64 × Hp)) := f_X12_nextOf_t157 x1 x4 x7 v.1 v.2.1 v.2.2
def f_X12_nextOf_t106 (x1 : Int32) (x7 : Int32) (x5 : Int64) (x8 : Int32) (σ1 : Hp) : Option ((Int64 × Int32 × Hp) ⊕ (Int64 × Hp)) := if x7 ≤ x8 then ex (ck (inb x1 6 = true) (f_X12_nextOf_b231 (x5 + (hI σ1 47 x1.toNatClampNeg).toInt64) σ1)) else ck (inb x8 64 = true) (some (.inl ((x5 * (hI σ1 67 x8.toNatClampNeg).toInt64), (x8 + 1), σ1)))
def f_X12_nextOf_s106 (x1 : Int32) (x7 : Int32) (v : (Int64 × Int32 × Hp)) : Option ((Int64 × Int32 × Hp) ⊕ (Int64 × Hp)) := f_X12_nextOf_t106 x1 x7 v.1 v.2.1 v.2.2
def f_X12_nextOf_b66 (xt0 : Int64) (σ1 : Hp) : Option (Int64 × Hp) := f_X12_nextOf_b231 xt0 σ1
def f_X12_nextOf (a1 : Int32) (a2 : Int64) (σ : Hp) : Option (Int64 × Hp) := ck (inb a1 6 = true) (if (hI σ 46 a1.toNatClampNeg) = 0 then b2 (f_X12_turnedOf a2 σ) (fun r_28 s_29 => f_X12_nextOf_b231 ((a2 + r_28) + (hI s_29 47 a1.toNatClampNeg).toInt64) s_29) else if (hI σ 46 a1.toNatClampNeg) = (1 : Int32) then b2 (f_X12_turnedOf a2 σ) (fun r_24 s_25 => if 0 ≤ (lg_cmp (a2 - r_24) (0 : Int64)) then f_X12_nextOf_b66 (a2 - r_24) s_25 else f_X12_nextOf_b66 (-(a2 - r_24)) s_25) else if (hI σ 46 a1.toNatClampNeg) = (3 : Int32) then b2 (f_X12_ordered a2 σ) (fun r_21 s_22 => f_X12_nextOf_b231 r_21 s_22) else if (hI σ 46 a1.toNatClampNeg) = (4 : Int32) then b2 (f_X12_figures a2 σ) (fun r_15 s_16 => iter (f_X12_nextOf_s106 a1 r_15) fuel ((1 : Int64), (0 : Int32), s_16)) else b2 (f_X12_figures a2 σ) (fun r_6 s_7 => iter (f_X12_nextOf_s157 a1 (hI σ 46 a1.toNatClampNeg) r_6) fuel ((0 : Int64), (0 : Int32), s_7)))
set_option maxHeartbeats 4000000 in
set_option maxRecDepth 100000 in
theorem c_X12_nextOf (l : Launch) (g : tG) (P : Nat → Nat) (σ : Hp) (a1 : Int32) (a2 : Int64) (sz : Nat) {r : Int64} {τ : Hp} (h : f_X12_nextOf a1 a2 σ = some (r, τ)) : Met l yX12_nextOf (Cond.code yX12_nextOf cX12_nextOf 10 (some .long) :: tblG) ({ frames := 2, cells := 0, slots := 0, locals := 53 }) (va_Pc [.ref (gL g 40), .int a1, .long a2] (tPre g P σ sz)) (tQ (some (.long r)) (tPost g P τ (va_A (wC g P σ) sz)) (va_A (wC g P σ) sz)) 0 0 (va_A (wC g P σ) sz) := by
  refine T_start (B := fun A => tPost g P τ A) (by decide) (Nat.le_of_ble_eq_true rfl) ?_
  intro p e s m args below meth c ls0 A hx hb hml hr hown hlocks ht hnm hK hZ hA hB0 hl0
  have hb_231 : ∀ (x5 : Int64) (σ1 : Hp) (H : Heap) (locs : List Loc) (ls : Array Slot), f_X12_nextOf_b231 x5 σ1 = some (r, τ) → tB g P σ1 A s.heap H locs → lv_has ls 10 [(5, .long x5)] → WQ p l e { frames := 2, cells := 0, slots := 0, locals := 53 } s m args below meth c g P A (some (.long r)) τ H locs (F0 m 231 ls []) := by
    intro x5 σ1 H locs ls h hB hl
    unfold f_X12_nextOf_b231 at h
    refine lv_lload hx hb dX12_nextOf_231 (lv_at hl 0 rfl) ?_
    refine lv_ldc2 (v := 999999999999999) hx hb hown (ht _ tw1088) dX12_nextOf_233 ?_
    refine W.lcmp hx hb dX12_nextOf_236 ?_
    refine lv_if_le (tgt := 246) hx hb dX12_nextOf_237 (by decide) (fun c_10 => ?_) (fun c_10 => ?_)
    · replace h := itp h c_10
      refine lv_lload hx hb dX12_nextOf_246 (lv_at hl 0 rfl) ?_
      obtain ⟨rfl, rfl⟩ := Prod.mk.inj (Option.some.inj h)
      exact W.lret hx hb hr (R_end hB) hB.2.2.2.2 dX12_nextOf_248
    · replace h := itn h c_10
      refine lv_ldc2 (v := -1) hx hb hown (ht _ tw1089) dX12_nextOf_240 ?_
      refine lv_goto (tgt := 248) hx hb dX12_nextOf_243 (by decide) ?_
      obtain ⟨rfl, rfl⟩ := Prod.mk.inj (Option.some.inj h)
      exact W.lret hx hb hr (R_end hB) hB.2.2.2.2 dX12_nextOf_248
  have hL_157 : ∀ (x1 : Int32) (x4 : Int32) (x7 : Int32) (n : Nat) (x5 : Int64) (x8 : Int32) (σ1 : Hp) (H : Heap) (locs : List Loc) (ls : Array Slot), iter (f_X12_nextOf_s157 x1 x4 x7) n (x5, x8, σ1) = some (r, τ) → tB g P σ1 A s.heap H locs → lv_has ls 10 [(0, .ref (gL g 40)), (1, .int x1), (4, .int x4), (5, .long x5), (7, .int x7), (8, .int x8)] → WQ p l e { frames := 2, cells := 0, slots := 0, locals := 53 } s m args below meth c g P A (some (.long r)) τ H locs (F0 m 157 ls []) := by
    intro x1 x4 x7 n
    induction n with
    | zero =>
      intro x5 x8 σ1 H locs ls h hB hl
      exact (iter_0 h).elim
    | succ n ih1 =>
      intro x5 x8 σ1 H locs ls h hB hl
      replace h := iter_eq h; obtain ⟨z1, hh1, hx1⟩ := h
      have hb_222 : ∀ (x8 : Int32) (xt0 : Int64) (xt1 : Int64) (σ1 : Hp) (H : Heap) (locs : List Loc) (ls : Array Slot), f_X12_nextOf_b222 x1 x4 x7 x8 xt0 xt1 σ1 = some z1 → tB g P σ1 A s.heap H locs → lv_has ls 10 [(0, .ref (gL g 40)), (1, .int x1), (4, .int x4), (7, .int x7), (8, .int x8)] → WQ p l e { frames := 2, cells := 0, slots := 0, locals := 53 } s m args below meth c g P A (some (.long r)) τ H locs (F0 m 222 ls [.long xt0, .long xt1]) := by
        intro x8 xt0 xt1 σ1 H locs ls h hB hl
        unfold f_X12_nextOf_b222 at h
        refine lv_ladd hx hb dX12_nextOf_222 ?_
        refine lv_lstore (lv' := [(5, .long (xt1 + xt0)), (0, .ref (gL g 40)), (1, .int x1), (4, .int x4), (7, .int x7), (8, .int x8)]) hx hb dX12_nextOf_223 hl (by decide) rfl (fun ls hl => ?_)
        refine lv_iinc (v := x8 + 1) (lv' := [(8, .int (x8 + 1)), (5, .long (xt1 + xt0)), (0, .ref (gL g 40)), (1, .int x1), (4, .int x4), (7, .int x7)]) hx hb dX12_nextOf_225 hl (k := 5) rfl rfl (by decide) rfl (fun ls hl => ?_)
        refine lv_goto (tgt := 157) hx hb dX12_nextOf_228 (by decide) ?_
        obtain rfl := Option.some.inj h
        exact ih1 (xt1 + xt0) (x8 + 1) σ1 H locs ls hx1 hB (lv_sub hl [2, 3, 4, 1, 5, 0] rfl)
      have h : f_X12_nextOf_t157 x1 x4 x7 x5 x8 σ1 = some z1 := hh1
      clear hh1
      unfold f_X12_nextOf_t157 at h
      refine lv_iload hx hb dX12_nextOf_157 (lv_at hl 5 rfl) ?_
      refine lv_iload hx hb dX12_nextOf_159 (lv_at hl 4 rfl) ?_
      refine lv_icmp_ge (tgt := 231) hx hb dX12_nextOf_161 (by decide) (fun c_9 => ?_) (fun c_9 => ?_)
      · replace h := itp h c_9
        replace h := ex_eq h; obtain ⟨b1, h, hz1⟩ := h
        subst hz1
        have hz1 := (itk_inr hx1).symm
        subst hz1
        exact hb_231 x5 σ1 H locs ls h hB (lv_sub hl [3] rfl)
      · replace h := itn h c_9
        refine lv_aload_n hx hb dX12_nextOf_164 rfl (lv_at hl 0 rfl) ?_
        refine R_get (v := .ref (gL g 67)) hx hb ht ui_X12 hown hK hB (by decide) (cell_8 rfl) rfl 27 (by decide) (ht _ tw943) (fun _ h9 => h9) rfl dX12_nextOf_165 ?_
        refine lv_iload hx hb dX12_nextOf_168 (lv_at hl 5 rfl) ?_
        replace h := ck_eq h; obtain ⟨q_11, h⟩ := h
        refine R_iald hx hb hK hB rfl (inb_eq q_11) dX12_nextOf_170 ?_
        refine lv_istore (lv' := [(9, .int (hI σ1 67 x8.toNatClampNeg)), (0, .ref (gL g 40)), (1, .int x1), (4, .int x4), (5, .long x5), (7, .int x7), (8, .int x8)]) hx hb dX12_nextOf_171 hl (by decide) rfl (fun ls hl => ?_)
        refine lv_lload hx hb dX12_nextOf_173 (lv_at hl 4 rfl) ?_
        refine lv_iload hx hb dX12_nextOf_175 (lv_at hl 3 rfl) ?_
        refine lv_iconst (v := 2) hx hb dX12_nextOf_177 (by decide) ?_
        refine lv_icmp_ne (tgt := 190) hx hb dX12_nextOf_178 (by decide) (fun c_12 => ?_) (fun c_12 => ?_)
        · replace h := itn h c_12
          refine lv_iload hx hb dX12_nextOf_190 (lv_at hl 3 rfl) ?_
          refine lv_bipush (v := 6) hx hb dX12_nextOf_192 (by decide) ?_
          refine lv_icmp_ne (tgt := 209) hx hb dX12_nextOf_194 (by decide) (fun c_13 => ?_) (fun c_13 => ?_)
          · replace h := itn h c_13
            refine lv_aload_n hx hb dX12_nextOf_209 rfl (lv_at hl 1 rfl) ?_
            refine R_get (v := .ref (gL g 48)) hx hb ht ui_X12 hown hK hB (by decide) (cell_8 rfl) rfl 8 (by decide) (ht _ tw924) (fun _ h9 => h9) rfl dX12_nextOf_210 ?_
            refine lv_bipush (v := 10) hx hb dX12_nextOf_213 (by decide) ?_
            refine lv_iload_n hx hb dX12_nextOf_215 rfl (lv_at hl 2 rfl) ?_
            refine lv_imul hx hb dX12_nextOf_216 ?_
            refine lv_iload hx hb dX12_nextOf_217 (lv_at hl 0 rfl) ?_
            refine lv_iadd hx hb dX12_nextOf_219 ?_
            replace h := ck_eq h; obtain ⟨q_14, h⟩ := h
            refine R_iald hx hb hK hB rfl (inb_eq q_14) dX12_nextOf_220 ?_
            refine lv_i2l (v := (hI σ1 48 (((10 : Int32) * x1) + (hI σ1 67 x8.toNatClampNeg)).toNatClampNeg).toInt64) hx hb dX12_nextOf_221 rfl ?_
            exact hb_222 x8 ((hI σ1 48 (((10 : Int32) * x1) + (hI σ1 67 x8.toNatClampNeg)).toNatClampNeg).toInt64) x5 σ1 H locs ls h hB (lv_sub hl [1, 2, 3, 5, 6] rfl)
          · replace h := itp h c_13
            refine lv_iload hx hb dX12_nextOf_197 (lv_at hl 0 rfl) ?_
            refine lv_iload hx hb dX12_nextOf_199 (lv_at hl 0 rfl) ?_
            refine lv_imul hx hb dX12_nextOf_201 ?_
            refine lv_iload hx hb dX12_nextOf_202 (lv_at hl 0 rfl) ?_
            refine lv_imul hx hb dX12_nextOf_204 ?_
            refine lv_i2l (v := (((hI σ1 67 x8.toNatClampNeg) * (hI σ1 67 x8.toNatClampNeg)) * (hI σ1 67 x8.toNatClampNeg)).toInt64) hx hb dX12_nextOf_205 rfl ?_
            refine lv_goto (tgt := 222) hx hb dX12_nextOf_206 (by decide) ?_
            exact hb_222 x8 ((((hI σ1 67 x8.toNatClampNeg) * (hI σ1 67 x8.toNatClampNeg)) * (hI σ1 67 x8.toNatClampNeg)).toInt64) x5 σ1 H locs ls h hB (lv_sub hl [1, 2, 3, 5, 6] rfl)
        · replace h := itp h c_12
          refine lv_iload hx hb dX12_nextOf_181 (lv_at hl 0 rfl) ?_
          refine lv_iload hx hb dX12_nextOf_183 (lv_at hl 0 rfl) ?_
          refine lv_imul hx hb dX12_nextOf_185 ?_
          refine lv_i2l (v := ((hI σ1 67 x8.toNatClampNeg) * (hI σ1 67 x8.toNatClampNeg)).toInt64) hx hb dX12_nextOf_186 rfl ?_
          refine lv_goto (tgt := 222) hx hb dX12_nextOf_187 (by decide) ?_
          exact hb_222 x8 (((hI σ1 67 x8.toNatClampNeg) * (hI σ1 67 x8.toNatClampNeg)).toInt64) x5 σ1 H locs ls h hB (lv_sub hl [1, 2, 3, 5, 6] rfl)
  have hL_106 : ∀ (x1 : Int32) (x7 : Int32) (n : Nat) (x5 : Int64) (x8 : Int32) (σ1 : Hp) (H : Heap) (locs : List Loc) (ls : Array Slot), iter (f_X12_nextOf_s106 x1 x7) n (x5, x8, σ1) = some (r, τ) → tB g P σ1 A s.heap H locs → lv_has ls 10 [(0, .ref (gL g 40)), (1, .int x1), (5, .long x5), (7, .int x7), (8, .int x8)] → WQ p l e { frames := 2, cells := 0, slots := 0, locals := 53 } s m args below meth c g P A (some (.long r)) τ H locs (F0 m 106 ls []) := by
    intro x1 x7 n
    induction n with
    | zero =>
      intro x5 x8 σ1 H locs ls h hB hl
      exact (iter_0 h).elim
    | succ n ih1 =>
      intro x5 x8 σ1 H locs ls h hB hl
      replace h := iter_eq h; obtain ⟨z1, hh1, hx1⟩ := h
      have h : f_X12_nextOf_t106 x1 x7 x5 x8 σ1 = some z1 := hh1
      clear hh1
      unfold f_X12_nextOf_t106 at h
      refine lv_iload hx hb dX12_nextOf_106 (lv_at hl 4 rfl) ?_
      refine lv_iload hx hb dX12_nextOf_108 (lv_at hl 3 rfl) ?_
      refine lv_icmp_ge (tgt := 132) hx hb dX12_nextOf_110 (by decide) (fun c_18 => ?_) (fun c_18 => ?_)
      · replace h := itp h c_18
        replace h := ex_eq h; obtain ⟨b1, h, hz1⟩ := h
        subst hz1
        have hz1 := (itk_inr hx1).symm
        subst hz1
        refine lv_lload hx hb dX12_nextOf_132 (lv_at hl 2 rfl) ?_
        refine lv_aload_n hx hb dX12_nextOf_134 rfl (lv_at hl 0 rfl) ?_
        refine R_get (v := .ref (gL g 47)) hx hb ht ui_X12 hown hK hB (by decide) (cell_8 rfl) rfl 7 (by decide) (ht _ tw923) (fun _ h9 => h9) rfl dX12_nextOf_135 ?_
        refine lv_iload_n hx hb dX12_nextOf_138 rfl (lv_at hl 1 rfl) ?_
        replace h := ck_eq h; obtain ⟨q_19, h⟩ := h
        refine R_iald hx hb hK hB rfl (inb_eq q_19) dX12_nextOf_139 ?_
        refine lv_i2l (v := (hI σ1 47 x1.toNatClampNeg).toInt64) hx hb dX12_nextOf_140 rfl ?_
        refine lv_ladd hx hb dX12_nextOf_141 ?_
        refine lv_lstore (lv' := [(5, .long (x5 + (hI σ1 47 x1.toNatClampNeg).toInt64)), (0, .ref (gL g 40)), (1, .int x1), (7, .int x7), (8, .int x8)]) hx hb dX12_nextOf_142 hl (by decide) rfl (fun ls hl => ?_)
        refine lv_goto (tgt := 231) hx hb dX12_nextOf_144 (by decide) ?_
        exact hb_231 (x5 + (hI σ1 47 x1.toNatClampNeg).toInt64) σ1 H locs ls h hB (lv_sub hl [0] rfl)
      · replace h := itn h c_18
        refine lv_lload hx hb dX12_nextOf_113 (lv_at hl 2 rfl) ?_
        refine lv_aload_n hx hb dX12_nextOf_115 rfl (lv_at hl 0 rfl) ?_
        refine R_get (v := .ref (gL g 67)) hx hb ht ui_X12 hown hK hB (by decide) (cell_8 rfl) rfl 27 (by decide) (ht _ tw943) (fun _ h9 => h9) rfl dX12_nextOf_116 ?_
        refine lv_iload hx hb dX12_nextOf_119 (lv_at hl 4 rfl) ?_
        replace h := ck_eq h; obtain ⟨q_20, h⟩ := h
        refine R_iald hx hb hK hB rfl (inb_eq q_20) dX12_nextOf_121 ?_
        refine lv_i2l (v := (hI σ1 67 x8.toNatClampNeg).toInt64) hx hb dX12_nextOf_122 rfl ?_
        refine lv_lmul hx hb dX12_nextOf_123 ?_
        refine lv_lstore (lv' := [(5, .long (x5 * (hI σ1 67 x8.toNatClampNeg).toInt64)), (0, .ref (gL g 40)), (1, .int x1), (7, .int x7), (8, .int x8)]) hx hb dX12_nextOf_124 hl (by decide) rfl (fun ls hl => ?_)
        refine lv_iinc (v := x8 + 1) (lv' := [(8, .int (x8 + 1)), (5, .long (x5 * (hI σ1 67 x8.toNatClampNeg).toInt64)), (0, .ref (gL g 40)), (1, .int x1), (7, .int x7)]) hx hb dX12_nextOf_126 hl (k := 4) rfl rfl (by decide) rfl (fun ls hl => ?_)
        refine lv_goto (tgt := 106) hx hb dX12_nextOf_129 (by decide) ?_
        obtain rfl := Option.some.inj h
        exact ih1 (x5 * (hI σ1 67 x8.toNatClampNeg).toInt64) (x8 + 1) σ1 H locs ls hx1 hB (lv_sub hl [2, 3, 1, 4, 0] rfl)
  have hb_66 : ∀ (xt0 : Int64) (σ1 : Hp) (H : Heap) (locs : List Loc) (ls : Array Slot), f_X12_nextOf_b66 xt0 σ1 = some (r, τ) → tB g P σ1 A s.heap H locs → lv_has ls 10 [] → WQ p l e { frames := 2, cells := 0, slots := 0, locals := 53 } s m args below meth c g P A (some (.long r)) τ H locs (F0 m 66 ls [.long xt0]) := by
    intro xt0 σ1 H locs ls h hB hl
    unfold f_X12_nextOf_b66 at h
    refine lv_lstore (lv' := [(5, .long xt0)]) hx hb dX12_nextOf_66 hl (by decide) rfl (fun ls hl => ?_)
    refine lv_goto (tgt := 231) hx hb dX12_nextOf_68 (by decide) ?_
    exact hb_231 xt0 σ1 H locs ls h hB (lv_sub hl [0] rfl)
  suffices hmain : ∀ (H : Heap) (locs : List Loc) (ls : Array Slot), tB g P σ A s.heap H locs → lv_has ls 10 [(0, .ref (gL g 40)), (1, .int a1), (2, .long a2)] → WQ p l e { frames := 2, cells := 0, slots := 0, locals := 53 } s m args below meth c g P A (some (.long r)) τ H locs (F0 m 0 ls []) from hmain _ _ ls0 hB0 hl0
  intro H locs ls hB hl
  unfold f_X12_nextOf at h
  refine lv_aload_n hx hb dX12_nextOf_0 rfl (lv_at hl 0 rfl) ?_
  refine R_get (v := .ref (gL g 46)) hx hb ht ui_X12 hown hK hB (by decide) (cell_8 rfl) rfl 6 (by decide) (ht _ tw922) (fun _ h9 => h9) rfl dX12_nextOf_1 ?_
  refine lv_iload_n hx hb dX12_nextOf_4 rfl (lv_at hl 1 rfl) ?_
  replace h := ck_eq h; obtain ⟨q_1, h⟩ := h
  refine R_iald hx hb hK hB rfl (inb_eq q_1) dX12_nextOf_5 ?_
  refine lv_istore (lv' := [(4, .int (hI σ 46 a1.toNatClampNeg)), (0, .ref (gL g 40)), (1, .int a1), (2, .long a2)]) hx hb dX12_nextOf_6 hl (by decide) rfl (fun ls hl => ?_)
  refine lv_lconst (v := 0) hx hb dX12_nextOf_8 (by decide) ?_
  refine lv_lstore (lv' := [(5, .long (0 : Int64)), (4, .int (hI σ 46 a1.toNatClampNeg)), (0, .ref (gL g 40)), (1, .int a1), (2, .long a2)]) hx hb dX12_nextOf_9 hl (by decide) rfl (fun ls hl => ?_)
  refine lv_iload hx hb dX12_nextOf_11 (lv_at hl 1 rfl) ?_
  refine lv_if_ne (tgt := 36) hx hb dX12_nextOf_13 (by decide) (fun c_2 => ?_) (fun c_2 => ?_)
  · replace h := itn h c_2
    refine lv_iload hx hb dX12_nextOf_36 (lv_at hl 1 rfl) ?_
    refine lv_iconst (v := 1) hx hb dX12_nextOf_38 (by decide) ?_
    refine lv_icmp_ne (tgt := 71) hx hb dX12_nextOf_39 (by decide) (fun c_3 => ?_) (fun c_3 => ?_)
    · replace h := itn h c_3
      refine lv_iload hx hb dX12_nextOf_71 (lv_at hl 1 rfl) ?_
      refine lv_iconst (v := 3) hx hb dX12_nextOf_73 (by decide) ?_
      refine lv_icmp_ne (tgt := 87) hx hb dX12_nextOf_74 (by decide) (fun c_4 => ?_) (fun c_4 => ?_)
      · replace h := itn h c_4
        refine lv_iload hx hb dX12_nextOf_87 (lv_at hl 1 rfl) ?_
        refine lv_iconst (v := 4) hx hb dX12_nextOf_89 (by decide) ?_
        refine lv_icmp_ne (tgt := 147) hx hb dX12_nextOf_90 (by decide) (fun c_5 => ?_) (fun c_5 => ?_)
        · replace h := itn h c_5
          refine lv_aload_n hx hb dX12_nextOf_147 rfl (lv_at hl 2 rfl) ?_
          refine lv_lload_n hx hb dX12_nextOf_148 rfl (lv_at hl 4 rfl) ?_
          replace h := b2_eq h; obtain ⟨r_6, s_7, hc_8, h⟩ := h
          refine R_call (rest := []) [.int r_6] (R_runV (n := 1) (As := [.long a2]) ⟨hx, hb, hml, hown, ht⟩ (fun _ h9 => h9) hK hZ hA hB (c_X12_figures l g P σ a2 H.size hc_8) (R_recv hK hB (by decide) (cell_8 rfl) rfl) tw1087 tw1084 tw1086 pw31 tw5 ⟨by decide, by decide, by decide⟩ rfl rfl ⟨Nat.le_of_ble_eq_true rfl, Nat.le_of_ble_eq_true rfl⟩ rfl hl.1 rfl (Nat.le_of_ble_eq_true rfl) dX12_nextOf_149 ⟨Nat.zero_le _, Nat.zero_le _⟩) hB hA rfl (fun H locs hB => ?_)
          refine lv_istore (lv' := [(7, .int r_6), (5, .long (0 : Int64)), (4, .int (hI σ 46 a1.toNatClampNeg)), (0, .ref (gL g 40)), (1, .int a1), (2, .long a2)]) hx hb dX12_nextOf_152 hl (by decide) rfl (fun ls hl => ?_)
          refine lv_iconst (v := 0) hx hb dX12_nextOf_154 (by decide) ?_
          refine lv_istore (lv' := [(8, .int (0 : Int32)), (7, .int r_6), (5, .long (0 : Int64)), (4, .int (hI σ 46 a1.toNatClampNeg)), (0, .ref (gL g 40)), (1, .int a1), (2, .long a2)]) hx hb dX12_nextOf_155 hl (by decide) rfl (fun ls hl => ?_)
          exact hL_157 a1 (hI σ 46 a1.toNatClampNeg) r_6 fuel (0 : Int64) (0 : Int32) s_7 H locs ls h hB (lv_sub hl [4, 5, 3, 2, 1, 0] rfl)
        · replace h := itp h c_5
          refine lv_aload_n hx hb dX12_nextOf_93 rfl (lv_at hl 2 rfl) ?_
          refine lv_lload_n hx hb dX12_nextOf_94 rfl (lv_at hl 4 rfl) ?_
          replace h := b2_eq h; obtain ⟨r_15, s_16, hc_17, h⟩ := h
          refine R_call (rest := []) [.int r_15] (R_runV (n := 1) (As := [.long a2]) ⟨hx, hb, hml, hown, ht⟩ (fun _ h9 => h9) hK hZ hA hB (c_X12_figures l g P σ a2 H.size hc_17) (R_recv hK hB (by decide) (cell_8 rfl) rfl) tw1087 tw1084 tw1086 pw31 tw5 ⟨by decide, by decide, by decide⟩ rfl rfl ⟨Nat.le_of_ble_eq_true rfl, Nat.le_of_ble_eq_true rfl⟩ rfl hl.1 rfl (Nat.le_of_ble_eq_true rfl) dX12_nextOf_95 ⟨Nat.zero_le _, Nat.zero_le _⟩) hB hA rfl (fun H locs hB => ?_)
          refine lv_istore (lv' := [(7, .int r_15), (5, .long (0 : Int64)), (4, .int (hI σ 46 a1.toNatClampNeg)), (0, .ref (gL g 40)), (1, .int a1), (2, .long a2)]) hx hb dX12_nextOf_98 hl (by decide) rfl (fun ls hl => ?_)
          refine lv_lconst (v := 1) hx hb dX12_nextOf_100 (by decide) ?_
          refine lv_lstore (lv' := [(5, .long (1 : Int64)), (7, .int r_15), (4, .int (hI σ 46 a1.toNatClampNeg)), (0, .ref (gL g 40)), (1, .int a1), (2, .long a2)]) hx hb dX12_nextOf_101 hl (by decide) rfl (fun ls hl => ?_)
          refine lv_iconst (v := 0) hx hb dX12_nextOf_103 (by decide) ?_
          refine lv_istore (lv' := [(8, .int (0 : Int32)), (5, .long (1 : Int64)), (7, .int r_15), (4, .int (hI σ 46 a1.toNatClampNeg)), (0, .ref (gL g 40)), (1, .int a1), (2, .long a2)]) hx hb dX12_nextOf_104 hl (by decide) rfl (fun ls hl => ?_)
          exact hL_106 a1 r_15 fuel (1 : Int64) (0 : Int32) s_16 H locs ls h hB (lv_sub hl [4, 5, 1, 2, 0] rfl)
      · replace h := itp h c_4
        refine lv_aload_n hx hb dX12_nextOf_77 rfl (lv_at hl 2 rfl) ?_
        refine lv_lload_n hx hb dX12_nextOf_78 rfl (lv_at hl 4 rfl) ?_
        replace h := b2_eq h; obtain ⟨r_21, s_22, hc_23, h⟩ := h
        refine R_call (rest := []) [.long r_21] (R_runV (n := 1) (As := [.long a2]) ⟨hx, hb, hml, hown, ht⟩ (fun _ h9 => h9) hK hZ hA hB (c_X12_ordered l g P σ a2 H.size hc_23) (R_recv hK hB (by decide) (cell_8 rfl) rfl) tw1083 tw1080 tw1082 pw30 tw5 ⟨by decide, by decide, by decide⟩ rfl rfl ⟨Nat.le_of_ble_eq_true rfl, Nat.le_of_ble_eq_true rfl⟩ rfl hl.1 rfl (Nat.le_of_ble_eq_true rfl) dX12_nextOf_79 ⟨Nat.zero_le _, Nat.zero_le _⟩) hB hA rfl (fun H locs hB => ?_)
        refine lv_lstore (lv' := [(5, .long r_21), (4, .int (hI σ 46 a1.toNatClampNeg)), (0, .ref (gL g 40)), (1, .int a1), (2, .long a2)]) hx hb dX12_nextOf_82 hl (by decide) rfl (fun ls hl => ?_)
        refine lv_goto (tgt := 231) hx hb dX12_nextOf_84 (by decide) ?_
        exact hb_231 r_21 s_22 H locs ls h hB (lv_sub hl [0] rfl)
    · replace h := itp h c_3
      refine lv_lload_n hx hb dX12_nextOf_42 rfl (lv_at hl 4 rfl) ?_
      refine lv_aload_n hx hb dX12_nextOf_43 rfl (lv_at hl 2 rfl) ?_
      refine lv_lload_n hx hb dX12_nextOf_44 rfl (lv_at hl 4 rfl) ?_
      replace h := b2_eq h; obtain ⟨r_24, s_25, hc_26, h⟩ := h
      refine R_call (rest := [.long a2]) [.long r_24, .long a2] (R_runV (n := 1) (As := [.long a2]) ⟨hx, hb, hml, hown, ht⟩ (fun _ h9 => h9) hK hZ hA hB (c_X12_turnedOf l g P σ a2 H.size hc_26) (R_recv hK hB (by decide) (cell_8 rfl) rfl) tw1079 tw1076 tw1078 pw29 tw5 ⟨by decide, by decide, by decide⟩ rfl rfl ⟨Nat.le_of_ble_eq_true rfl, Nat.le_of_ble_eq_true rfl⟩ rfl hl.1 rfl (Nat.le_of_ble_eq_true rfl) dX12_nextOf_45 ⟨Nat.zero_le _, Nat.zero_le _⟩) hB hA rfl (fun H locs hB => ?_)
      refine lv_lsub hx hb dX12_nextOf_48 ?_
      refine lv_lstore (lv' := [(5, .long (a2 - r_24)), (4, .int (hI σ 46 a1.toNatClampNeg)), (0, .ref (gL g 40)), (1, .int a1), (2, .long a2)]) hx hb dX12_nextOf_49 hl (by decide) rfl (fun ls hl => ?_)
      refine lv_lload hx hb dX12_nextOf_51 (lv_at hl 0 rfl) ?_
      refine lv_lconst (v := 0) hx hb dX12_nextOf_53 (by decide) ?_
      refine W.lcmp hx hb dX12_nextOf_54 ?_
      refine lv_if_ge (tgt := 64) hx hb dX12_nextOf_55 (by decide) (fun c_27 => ?_) (fun c_27 => ?_)
      · replace h := itp h c_27
        refine lv_lload hx hb dX12_nextOf_64 (lv_at hl 0 rfl) ?_
        exact hb_66 (a2 - r_24) s_25 H locs ls h hB (lv_sub hl [] rfl)
      · replace h := itn h c_27
        refine lv_lload hx hb dX12_nextOf_58 (lv_at hl 0 rfl) ?_
        refine lv_lneg hx hb dX12_nextOf_60 ?_
        refine lv_goto (tgt := 66) hx hb dX12_nextOf_61 (by decide) ?_
        exact hb_66 (-(a2 - r_24)) s_25 H locs ls h hB (lv_sub hl [] rfl)
  · replace h := itp h c_2
    refine lv_lload_n hx hb dX12_nextOf_16 rfl (lv_at hl 4 rfl) ?_
    refine lv_aload_n hx hb dX12_nextOf_17 rfl (lv_at hl 2 rfl) ?_
    refine lv_lload_n hx hb dX12_nextOf_18 rfl (lv_at hl 4 rfl) ?_
    replace h := b2_eq h; obtain ⟨r_28, s_29, hc_30, h⟩ := h
    refine R_call (rest := [.long a2]) [.long r_28, .long a2] (R_runV (n := 1) (As := [.long a2]) ⟨hx, hb, hml, hown, ht⟩ (fun _ h9 => h9) hK hZ hA hB (c_X12_turnedOf l g P σ a2 H.size hc_30) (R_recv hK hB (by decide) (cell_8 rfl) rfl) tw1079 tw1076 tw1078 pw29 tw5 ⟨by decide, by decide, by decide⟩ rfl rfl ⟨Nat.le_of_ble_eq_true rfl, Nat.le_of_ble_eq_true rfl⟩ rfl hl.1 rfl (Nat.le_of_ble_eq_true rfl) dX12_nextOf_19 ⟨Nat.zero_le _, Nat.zero_le _⟩) hB hA rfl (fun H locs hB => ?_)
    refine lv_ladd hx hb dX12_nextOf_22 ?_
    refine lv_aload_n hx hb dX12_nextOf_23 rfl (lv_at hl 2 rfl) ?_
    refine R_get (v := .ref (gL g 47)) hx hb ht ui_X12 hown hK hB (by decide) (cell_8 rfl) rfl 7 (by decide) (ht _ tw923) (fun _ h9 => h9) rfl dX12_nextOf_24 ?_
    refine lv_iload_n hx hb dX12_nextOf_27 rfl (lv_at hl 3 rfl) ?_
    refine R_iald hx hb hK hB rfl (inb_eq q_1) dX12_nextOf_28 ?_
    refine lv_i2l (v := (hI s_29 47 a1.toNatClampNeg).toInt64) hx hb dX12_nextOf_29 rfl ?_
    refine lv_ladd hx hb dX12_nextOf_30 ?_
    refine lv_lstore (lv' := [(5, .long ((a2 + r_28) + (hI s_29 47 a1.toNatClampNeg).toInt64)), (4, .int (hI σ 46 a1.toNatClampNeg)), (0, .ref (gL g 40)), (1, .int a1), (2, .long a2)]) hx hb dX12_nextOf_31 hl (by decide) rfl (fun ls hl => ?_)
    refine lv_goto (tgt := 231) hx hb dX12_nextOf_33 (by decide) ?_
    exact hb_231 ((a2 + r_28) + (hI s_29 47 a1.toNatClampNeg).toInt64) s_29 H locs ls h hB (lv_sub hl [0] rfl)
def f_X12_says_b18 (σ1 : Hp) : Option (Int32 × Hp) := b2 (f_X12_no (-1 : Int32) σ1) (fun r_5 s_6 => some (r_5, s_6))
def f_X12_says_b130 (x2 : Int32) (x3 : Int32) (σ1 : Hp) : Option (Int32 × Hp) := if x2 = 0 then ck (inb x3 6 = true) (some ((hI σ1 47 x3.toNatClampNeg), σ1)) else (if x2 = 1 then b2 (f_X12_nextOf x3 (100 : Int64) σ1) (fun r_20 s_21 => some (r_20.toInt32, s_21)) else (if x2 = 2 then b2 (f_X12_nextOf x3 (99 : Int64) σ1) (fun r_24 s_25 => some (r_24.toInt32, s_25)) else (if x2 = 3 then b2 (f_X12_nextOf x3 (495 : Int64) σ1) (fun r_28 s_29 => some (r_28.toInt32, s_29)) else (if x2 = 4 then b2 (f_X12_nextOf x3 (77 : Int64) σ1) (fun r_32 s_33 => some (r_32.toInt32, s_33)) else (if x2 = 5 then b2 (f_X12_greatest x3 σ1) (fun r_36 s_37 => some (r_36, s_37)) else (b2 (f_X12_nextOf x3 (12 : Int64) σ1) (fun r_39 s_40 => some (r_39.toInt32, s_40))))))))
def f_X12_says_b106 (x2 : Int32) (x3 : Int32) (x4 : Int32) (xt0 : Int32) (σ1 : Hp) : Option (Int32 × Hp) := if x2 = 0 then f_X12_says_b130 x2 x3 σ1 else if x2 = x4 then f_X12_says_b130 x2 x3 σ1 else if xt0 = 0 then b2 (f_X12_no (-2 : Int32) σ1) (fun r_44 s_45 => some (r_44, s_45)) else f_X12_says_b130 x2 x3 σ1
def f_X12_says_b105 (x2 : Int32) (x3 : Int32) (x4 : Int32) (σ1 : Hp) : Option (Int32 × Hp) := f_X12_says_b106 x2 x3 x4 (0 : Int32) σ1
def f_X12_says_b101 (x2 : Int32) (x3 : Int32) (x4 : Int32) (σ1 : Hp) : Option (Int32 × Hp) := f_X12_says_b106 x2 x3 x4 (1 : Int32) σ1
def f_X12_says_b83 (x2 : Int32) (x3 : Int32) (x4 : Int32) (σ1 : Hp) : Option (Int32 × Hp) := if x2 = (2 : Int32) then if x4 = (5 : Int32) then f_X12_says_b101 x2 x3 x4 σ1 else if x4 = (6 : Int32) then f_X12_says_b101 x2 x3 x4 σ1 else f_X12_says_b105 x2 x3 x4 σ1 else f_X12_says_b105 x2 x3 x4 σ1
def f_X12_says (a1 : Int32) (a2 : Int32) (σ : Hp) : Option (Int32 × Hp) := b2 (f_X12_isShelf a1 σ) (fun r_1 s_2 => if r_1 = 0 then f_X12_says_b18 s_2 else if a2 < 0 then f_X12_says_b18 s_2 else if a2 ≤ (6 : Int32) then ck (inb a1 8 = true) (if (hI s_2 50 a1.toNatClampNeg) = (1 : Int32) then b2 (f_X12_no (-2 : Int32) s_2) (fun r_53 s_54 => some (r_53, s_54)) else if (hI s_2 50 a1.toNatClampNeg) = 0 then b2 (f_X12_no (-3 : Int32) s_2) (fun r_50 s_51 => some (r_50, s_51)) else ck (inb (hI s_2 53 a1.toNatClampNeg) 6 = true) (if a2 = (1 : Int32) then if (hI s_2 46 (hI s_2 53 a1.toNatClampNeg).toNatClampNeg) = (3 : Int32) then f_X12_says_b101 a2 (hI s_2 53 a1.toNatClampNeg) (hI s_2 46 (hI s_2 53 a1.toNatClampNeg).toNatClampNeg) s_2 else f_X12_says_b83 a2 (hI s_2 53 a1.toNatClampNeg) (hI s_2 46 (hI s_2 53 a1.toNatClampNeg).toNatClampNeg) s_2 else f_X12_says_b83 a2 (hI s_2 53 a1.toNatClampNeg) (hI s_2 46 (hI s_2 53 a1.toNatClampNeg).toNatClampNeg) s_2)) else f_X12_says_b18 s_2)
set_option maxHeartbeats 4000000 in
set_option maxRecDepth 100000 in
theorem c_X12_says (l : Launch) (g : tG) (P : Nat → Nat) (σ : Hp) (a1 : Int32) (a2 : Int32) (sz : Nat) {r : Int32} {τ : Hp} (h : f_X12_says a1 a2 σ = some (r, τ)) : Met l yX12_says (Cond.code yX12_says cX12_says 6 (some .int) :: tblG) ({ frames := 3, cells := 0, slots := 0, locals := 82 }) (va_Pc [.ref (gL g 40), .int a1, .int a2] (tPre g P σ sz)) (tQ (some (.int r)) (tPost g P τ (va_A (wC g P σ) sz)) (va_A (wC g P σ) sz)) 0 0 (va_A (wC g P σ) sz) := by
  refine T_start (B := fun A => tPost g P τ A) (by decide) (Nat.le_of_ble_eq_true rfl) ?_
  intro p e s m args below meth c ls0 A hx hb hml hr hown hlocks ht hnm hK hZ hA hB0 hl0
  have hb_18 : ∀ (σ1 : Hp) (H : Heap) (locs : List Loc) (ls : Array Slot), f_X12_says_b18 σ1 = some (r, τ) → tB g P σ1 A s.heap H locs → lv_has ls 6 [(0, .ref (gL g 40))] → WQ p l e { frames := 3, cells := 0, slots := 0, locals := 82 } s m args below meth c g P A (some (.int r)) τ H locs (F0 m 18 ls []) := by
    intro σ1 H locs ls h hB hl
    unfold f_X12_says_b18 at h
    refine lv_aload_n hx hb dX12_says_18 rfl (lv_at hl 0 rfl) ?_
    refine lv_iconst (v := -1) hx hb dX12_says_19 (by decide) ?_
    replace h := b2_eq h; obtain ⟨r_5, s_6, hc_7, h⟩ := h
    refine R_call (rest := []) [.int r_5] (R_runV (n := 1) (As := [.int (-1 : Int32)]) ⟨hx, hb, hml, hown, ht⟩ (fun _ h9 => h9) hK hZ hA hB (c_X12_no l g P σ1 (-1 : Int32) H.size hc_7) (R_recv hK hB (by decide) (cell_8 rfl) rfl) tw1042 tw1039 tw1041 pw26 tw5 ⟨by decide, by decide, by decide⟩ rfl rfl ⟨Nat.le_of_ble_eq_true rfl, Nat.le_of_ble_eq_true rfl⟩ rfl hl.1 rfl (Nat.le_of_ble_eq_true rfl) dX12_says_20 ⟨Nat.zero_le _, Nat.zero_le _⟩) hB hA rfl (fun H locs hB => ?_)
    obtain ⟨rfl, rfl⟩ := Prod.mk.inj (Option.some.inj h)
    exact W.iret hx hb hr (R_end hB) hB.2.2.2.2 dX12_says_23
  have hb_130 : ∀ (x2 : Int32) (x3 : Int32) (σ1 : Hp) (H : Heap) (locs : List Loc) (ls : Array Slot), f_X12_says_b130 x2 x3 σ1 = some (r, τ) → tB g P σ1 A s.heap H locs → lv_has ls 6 [(0, .ref (gL g 40)), (2, .int x2), (3, .int x3)] → WQ p l e { frames := 3, cells := 0, slots := 0, locals := 82 } s m args below meth c g P A (some (.int r)) τ H locs (F0 m 130 ls []) := by
    intro x2 x3 σ1 H locs ls h hB hl
    unfold f_X12_says_b130 at h
    refine lv_iload_n hx hb dX12_says_130 rfl (lv_at hl 1 rfl) ?_
    by_cases c_17 : x2 = 0
    · replace h := itp h c_17
      refine lv_tableIn (tgt := 168) hx hb dX12_says_131 (by rw [c_17]; decide) (by rw [c_17]; decide) (by rw [c_17]; rfl) (by decide) ?_
      refine lv_aload_n hx hb dX12_says_168 rfl (lv_at hl 0 rfl) ?_
      refine R_get (v := .ref (gL g 47)) hx hb ht ui_X12 hown hK hB (by decide) (cell_8 rfl) rfl 7 (by decide) (ht _ tw923) (fun _ h9 => h9) rfl dX12_says_169 ?_
      refine lv_iload_n hx hb dX12_says_172 rfl (lv_at hl 2 rfl) ?_
      replace h := ck_eq h; obtain ⟨q_18, h⟩ := h
      refine R_iald hx hb hK hB rfl (inb_eq q_18) dX12_says_173 ?_
      obtain ⟨rfl, rfl⟩ := Prod.mk.inj (Option.some.inj h)
      exact W.iret hx hb hr (R_end hB) hB.2.2.2.2 dX12_says_174
    · replace h := itn h c_17
      by_cases c_19 : x2 = 1
      · replace h := itp h c_19
        refine lv_tableIn (tgt := 175) hx hb dX12_says_131 (by rw [c_19]; decide) (by rw [c_19]; decide) (by rw [c_19]; rfl) (by decide) ?_
        refine lv_aload_n hx hb dX12_says_175 rfl (lv_at hl 0 rfl) ?_
        refine lv_iload_n hx hb dX12_says_176 rfl (lv_at hl 2 rfl) ?_
        refine lv_ldc2 (v := 100) hx hb hown (ht _ tw1071) dX12_says_177 ?_
        replace h := b2_eq h; obtain ⟨r_20, s_21, hc_22, h⟩ := h
        refine R_call (rest := []) [.long r_20] (R_runV (n := 2) (As := [.int x3, .long (100 : Int64)]) ⟨hx, hb, hml, hown, ht⟩ (fun _ h9 => h9) hK hZ hA hB (c_X12_nextOf l g P σ1 x3 (100 : Int64) H.size hc_22) (R_recv hK hB (by decide) (cell_8 rfl) rfl) tw1075 tw1072 tw1074 pw28 tw5 ⟨by decide, by decide, by decide⟩ rfl rfl ⟨Nat.le_of_ble_eq_true rfl, Nat.le_of_ble_eq_true rfl⟩ rfl hl.1 rfl (Nat.le_of_ble_eq_true rfl) dX12_says_180 ⟨Nat.zero_le _, Nat.zero_le _⟩) hB hA rfl (fun H locs hB => ?_)
        refine lv_l2i (v := r_20.toInt32) hx hb dX12_says_183 rfl ?_
        obtain ⟨rfl, rfl⟩ := Prod.mk.inj (Option.some.inj h)
        exact W.iret hx hb hr (R_end hB) hB.2.2.2.2 dX12_says_184
      · replace h := itn h c_19
        by_cases c_23 : x2 = 2
        · replace h := itp h c_23
          refine lv_tableIn (tgt := 185) hx hb dX12_says_131 (by rw [c_23]; decide) (by rw [c_23]; decide) (by rw [c_23]; rfl) (by decide) ?_
          refine lv_aload_n hx hb dX12_says_185 rfl (lv_at hl 0 rfl) ?_
          refine lv_iload_n hx hb dX12_says_186 rfl (lv_at hl 2 rfl) ?_
          refine lv_ldc2 (v := 99) hx hb hown (ht _ tw1090) dX12_says_187 ?_
          replace h := b2_eq h; obtain ⟨r_24, s_25, hc_26, h⟩ := h
          refine R_call (rest := []) [.long r_24] (R_runV (n := 2) (As := [.int x3, .long (99 : Int64)]) ⟨hx, hb, hml, hown, ht⟩ (fun _ h9 => h9) hK hZ hA hB (c_X12_nextOf l g P σ1 x3 (99 : Int64) H.size hc_26) (R_recv hK hB (by decide) (cell_8 rfl) rfl) tw1075 tw1072 tw1074 pw28 tw5 ⟨by decide, by decide, by decide⟩ rfl rfl ⟨Nat.le_of_ble_eq_true rfl, Nat.le_of_ble_eq_true rfl⟩ rfl hl.1 rfl (Nat.le_of_ble_eq_true rfl) dX12_says_190 ⟨Nat.zero_le _, Nat.zero_le _⟩) hB hA rfl (fun H locs hB => ?_)
          refine lv_l2i (v := r_24.toInt32) hx hb dX12_says_193 rfl ?_
          obtain ⟨rfl, rfl⟩ := Prod.mk.inj (Option.some.inj h)
          exact W.iret hx hb hr (R_end hB) hB.2.2.2.2 dX12_says_194
        · replace h := itn h c_23
          by_cases c_27 : x2 = 3
          · replace h := itp h c_27
            refine lv_tableIn (tgt := 205) hx hb dX12_says_131 (by rw [c_27]; decide) (by rw [c_27]; decide) (by rw [c_27]; rfl) (by decide) ?_
            refine lv_aload_n hx hb dX12_says_205 rfl (lv_at hl 0 rfl) ?_
            refine lv_iload_n hx hb dX12_says_206 rfl (lv_at hl 2 rfl) ?_
            refine lv_ldc2 (v := 495) hx hb hown (ht _ tw1092) dX12_says_207 ?_
            replace h := b2_eq h; obtain ⟨r_28, s_29, hc_30, h⟩ := h
            refine R_call (rest := []) [.long r_28] (R_runV (n := 2) (As := [.int x3, .long (495 : Int64)]) ⟨hx, hb, hml, hown, ht⟩ (fun _ h9 => h9) hK hZ hA hB (c_X12_nextOf l g P σ1 x3 (495 : Int64) H.size hc_30) (R_recv hK hB (by decide) (cell_8 rfl) rfl) tw1075 tw1072 tw1074 pw28 tw5 ⟨by decide, by decide, by decide⟩ rfl rfl ⟨Nat.le_of_ble_eq_true rfl, Nat.le_of_ble_eq_true rfl⟩ rfl hl.1 rfl (Nat.le_of_ble_eq_true rfl) dX12_says_210 ⟨Nat.zero_le _, Nat.zero_le _⟩) hB hA rfl (fun H locs hB => ?_)
            refine lv_l2i (v := r_28.toInt32) hx hb dX12_says_213 rfl ?_
            obtain ⟨rfl, rfl⟩ := Prod.mk.inj (Option.some.inj h)
            exact W.iret hx hb hr (R_end hB) hB.2.2.2.2 dX12_says_214
          · replace h := itn h c_27
            by_cases c_31 : x2 = 4
            · replace h := itp h c_31
              refine lv_tableIn (tgt := 195) hx hb dX12_says_131 (by rw [c_31]; decide) (by rw [c_31]; decide) (by rw [c_31]; rfl) (by decide) ?_
              refine lv_aload_n hx hb dX12_says_195 rfl (lv_at hl 0 rfl) ?_
              refine lv_iload_n hx hb dX12_says_196 rfl (lv_at hl 2 rfl) ?_
              refine lv_ldc2 (v := 77) hx hb hown (ht _ tw1091) dX12_says_197 ?_
              replace h := b2_eq h; obtain ⟨r_32, s_33, hc_34, h⟩ := h
              refine R_call (rest := []) [.long r_32] (R_runV (n := 2) (As := [.int x3, .long (77 : Int64)]) ⟨hx, hb, hml, hown, ht⟩ (fun _ h9 => h9) hK hZ hA hB (c_X12_nextOf l g P σ1 x3 (77 : Int64) H.size hc_34) (R_recv hK hB (by decide) (cell_8 rfl) rfl) tw1075 tw1072 tw1074 pw28 tw5 ⟨by decide, by decide, by decide⟩ rfl rfl ⟨Nat.le_of_ble_eq_true rfl, Nat.le_of_ble_eq_true rfl⟩ rfl hl.1 rfl (Nat.le_of_ble_eq_true rfl) dX12_says_200 ⟨Nat.zero_le _, Nat.zero_le _⟩) hB hA rfl (fun H locs hB => ?_)
              refine lv_l2i (v := r_32.toInt32) hx hb dX12_says_203 rfl ?_
              obtain ⟨rfl, rfl⟩ := Prod.mk.inj (Option.some.inj h)
              exact W.iret hx hb hr (R_end hB) hB.2.2.2.2 dX12_says_204
            · replace h := itn h c_31
              by_cases c_35 : x2 = 5
              · replace h := itp h c_35
                refine lv_tableIn (tgt := 215) hx hb dX12_says_131 (by rw [c_35]; decide) (by rw [c_35]; decide) (by rw [c_35]; rfl) (by decide) ?_
                refine lv_aload_n hx hb dX12_says_215 rfl (lv_at hl 0 rfl) ?_
                refine lv_iload_n hx hb dX12_says_216 rfl (lv_at hl 2 rfl) ?_
                replace h := b2_eq h; obtain ⟨r_36, s_37, hc_38, h⟩ := h
                refine R_call (rest := []) [.int r_36] (R_runV (n := 1) (As := [.int x3]) ⟨hx, hb, hml, hown, ht⟩ (fun _ h9 => h9) hK hZ hA hB (c_X12_greatest l g P σ1 x3 H.size hc_38) (R_recv hK hB (by decide) (cell_8 rfl) rfl) tw1096 tw1093 tw1095 pw32 tw5 ⟨by decide, by decide, by decide⟩ rfl rfl ⟨Nat.le_of_ble_eq_true rfl, Nat.le_of_ble_eq_true rfl⟩ rfl hl.1 rfl (Nat.le_of_ble_eq_true rfl) dX12_says_217 ⟨Nat.zero_le _, Nat.zero_le _⟩) hB hA rfl (fun H locs hB => ?_)
                obtain ⟨rfl, rfl⟩ := Prod.mk.inj (Option.some.inj h)
                exact W.iret hx hb hr (R_end hB) hB.2.2.2.2 dX12_says_220
              · replace h := itn h c_35
                refine lv_tableOut (tgt := 221) hx hb dX12_says_131 (sw_out (lo := 0) (hi := 5) (by decide) (by decide) (fun k h1 h2 => by rcases (show k = 0 ∨ k = 1 ∨ k = 2 ∨ k = 3 ∨ k = 4 ∨ k = 5 by omega) with rfl | rfl | rfl | rfl | rfl | rfl <;> assumption)) (by decide) ?_
                refine lv_aload_n hx hb dX12_says_221 rfl (lv_at hl 0 rfl) ?_
                refine lv_iload_n hx hb dX12_says_222 rfl (lv_at hl 2 rfl) ?_
                refine lv_ldc2 (v := 12) hx hb hown (ht _ tw1097) dX12_says_223 ?_
                replace h := b2_eq h; obtain ⟨r_39, s_40, hc_41, h⟩ := h
                refine R_call (rest := []) [.long r_39] (R_runV (n := 2) (As := [.int x3, .long (12 : Int64)]) ⟨hx, hb, hml, hown, ht⟩ (fun _ h9 => h9) hK hZ hA hB (c_X12_nextOf l g P σ1 x3 (12 : Int64) H.size hc_41) (R_recv hK hB (by decide) (cell_8 rfl) rfl) tw1075 tw1072 tw1074 pw28 tw5 ⟨by decide, by decide, by decide⟩ rfl rfl ⟨Nat.le_of_ble_eq_true rfl, Nat.le_of_ble_eq_true rfl⟩ rfl hl.1 rfl (Nat.le_of_ble_eq_true rfl) dX12_says_226 ⟨Nat.zero_le _, Nat.zero_le _⟩) hB hA rfl (fun H locs hB => ?_)
                refine lv_l2i (v := r_39.toInt32) hx hb dX12_says_229 rfl ?_
                obtain ⟨rfl, rfl⟩ := Prod.mk.inj (Option.some.inj h)
                exact W.iret hx hb hr (R_end hB) hB.2.2.2.2 dX12_says_230
  have hb_106 : ∀ (x2 : Int32) (x3 : Int32) (x4 : Int32) (xt0 : Int32) (σ1 : Hp) (H : Heap) (locs : List Loc) (ls : Array Slot), f_X12_says_b106 x2 x3 x4 xt0 σ1 = some (r, τ) → tB g P σ1 A s.heap H locs → lv_has ls 6 [(0, .ref (gL g 40)), (2, .int x2), (3, .int x3), (4, .int x4)] → WQ p l e { frames := 3, cells := 0, slots := 0, locals := 82 } s m args below meth c g P A (some (.int r)) τ H locs (F0 m 106 ls [.int xt0]) := by
    intro x2 x3 x4 xt0 σ1 H locs ls h hB hl
    unfold f_X12_says_b106 at h
    refine lv_istore (lv' := [(5, .int xt0), (0, .ref (gL g 40)), (2, .int x2), (3, .int x3), (4, .int x4)]) hx hb dX12_says_106 hl (by decide) rfl (fun ls hl => ?_)
    refine lv_iload_n hx hb dX12_says_108 rfl (lv_at hl 2 rfl) ?_
    refine lv_if_eq (tgt := 130) hx hb dX12_says_109 (by decide) (fun c_16 => ?_) (fun c_16 => ?_)
    · replace h := itp h c_16
      exact hb_130 x2 x3 σ1 H locs ls h hB (lv_sub hl [1, 2, 3] rfl)
    · replace h := itn h c_16
      refine lv_iload_n hx hb dX12_says_112 rfl (lv_at hl 2 rfl) ?_
      refine lv_iload hx hb dX12_says_113 (lv_at hl 4 rfl) ?_
      refine lv_icmp_eq (tgt := 130) hx hb dX12_says_115 (by decide) (fun c_42 => ?_) (fun c_42 => ?_)
      · replace h := itp h c_42
        exact hb_130 x2 x3 σ1 H locs ls h hB (lv_sub hl [1, 2, 3] rfl)
      · replace h := itn h c_42
        refine lv_iload hx hb dX12_says_118 (lv_at hl 0 rfl) ?_
        refine lv_if_ne (tgt := 130) hx hb dX12_says_120 (by decide) (fun c_43 => ?_) (fun c_43 => ?_)
        · replace h := itn h c_43
          exact hb_130 x2 x3 σ1 H locs ls h hB (lv_sub hl [1, 2, 3] rfl)
        · replace h := itp h c_43
          refine lv_aload_n hx hb dX12_says_123 rfl (lv_at hl 1 rfl) ?_
          refine lv_bipush (v := -2) hx hb dX12_says_124 (by decide) ?_
          replace h := b2_eq h; obtain ⟨r_44, s_45, hc_46, h⟩ := h
          refine R_call (rest := []) [.int r_44] (R_runV (n := 1) (As := [.int (-2 : Int32)]) ⟨hx, hb, hml, hown, ht⟩ (fun _ h9 => h9) hK hZ hA hB (c_X12_no l g P σ1 (-2 : Int32) H.size hc_46) (R_recv hK hB (by decide) (cell_8 rfl) rfl) tw1042 tw1039 tw1041 pw26 tw5 ⟨by decide, by decide, by decide⟩ rfl rfl ⟨Nat.le_of_ble_eq_true rfl, Nat.le_of_ble_eq_true rfl⟩ rfl hl.1 rfl (Nat.le_of_ble_eq_true rfl) dX12_says_126 ⟨Nat.zero_le _, Nat.zero_le _⟩) hB hA rfl (fun H locs hB => ?_)
          obtain ⟨rfl, rfl⟩ := Prod.mk.inj (Option.some.inj h)
          exact W.iret hx hb hr (R_end hB) hB.2.2.2.2 dX12_says_129
  have hb_105 : ∀ (x2 : Int32) (x3 : Int32) (x4 : Int32) (σ1 : Hp) (H : Heap) (locs : List Loc) (ls : Array Slot), f_X12_says_b105 x2 x3 x4 σ1 = some (r, τ) → tB g P σ1 A s.heap H locs → lv_has ls 6 [(0, .ref (gL g 40)), (2, .int x2), (3, .int x3), (4, .int x4)] → WQ p l e { frames := 3, cells := 0, slots := 0, locals := 82 } s m args below meth c g P A (some (.int r)) τ H locs (F0 m 105 ls []) := by
    intro x2 x3 x4 σ1 H locs ls h hB hl
    unfold f_X12_says_b105 at h
    refine lv_iconst (v := 0) hx hb dX12_says_105 (by decide) ?_
    exact hb_106 x2 x3 x4 (0 : Int32) σ1 H locs ls h hB (lv_sub hl [0, 1, 2, 3] rfl)
  have hb_101 : ∀ (x2 : Int32) (x3 : Int32) (x4 : Int32) (σ1 : Hp) (H : Heap) (locs : List Loc) (ls : Array Slot), f_X12_says_b101 x2 x3 x4 σ1 = some (r, τ) → tB g P σ1 A s.heap H locs → lv_has ls 6 [(0, .ref (gL g 40)), (2, .int x2), (3, .int x3), (4, .int x4)] → WQ p l e { frames := 3, cells := 0, slots := 0, locals := 82 } s m args below meth c g P A (some (.int r)) τ H locs (F0 m 101 ls []) := by
    intro x2 x3 x4 σ1 H locs ls h hB hl
    unfold f_X12_says_b101 at h
    refine lv_iconst (v := 1) hx hb dX12_says_101 (by decide) ?_
    refine lv_goto (tgt := 106) hx hb dX12_says_102 (by decide) ?_
    exact hb_106 x2 x3 x4 (1 : Int32) σ1 H locs ls h hB (lv_sub hl [0, 1, 2, 3] rfl)
  have hb_83 : ∀ (x2 : Int32) (x3 : Int32) (x4 : Int32) (σ1 : Hp) (H : Heap) (locs : List Loc) (ls : Array Slot), f_X12_says_b83 x2 x3 x4 σ1 = some (r, τ) → tB g P σ1 A s.heap H locs → lv_has ls 6 [(0, .ref (gL g 40)), (2, .int x2), (3, .int x3), (4, .int x4)] → WQ p l e { frames := 3, cells := 0, slots := 0, locals := 82 } s m args below meth c g P A (some (.int r)) τ H locs (F0 m 83 ls []) := by
    intro x2 x3 x4 σ1 H locs ls h hB hl
    unfold f_X12_says_b83 at h
    refine lv_iload_n hx hb dX12_says_83 rfl (lv_at hl 1 rfl) ?_
    refine lv_iconst (v := 2) hx hb dX12_says_84 (by decide) ?_
    refine lv_icmp_ne (tgt := 105) hx hb dX12_says_85 (by decide) (fun c_15 => ?_) (fun c_15 => ?_)
    · replace h := itn h c_15
      exact hb_105 x2 x3 x4 σ1 H locs ls h hB (lv_sub hl [0, 1, 2, 3] rfl)
    · replace h := itp h c_15
      refine lv_iload hx hb dX12_says_88 (lv_at hl 3 rfl) ?_
      refine lv_iconst (v := 5) hx hb dX12_says_90 (by decide) ?_
      refine lv_icmp_eq (tgt := 101) hx hb dX12_says_91 (by decide) (fun c_47 => ?_) (fun c_47 => ?_)
      · replace h := itp h c_47
        exact hb_101 x2 x3 x4 σ1 H locs ls h hB (lv_sub hl [0, 1, 2, 3] rfl)
      · replace h := itn h c_47
        refine lv_iload hx hb dX12_says_94 (lv_at hl 3 rfl) ?_
        refine lv_bipush (v := 6) hx hb dX12_says_96 (by decide) ?_
        refine lv_icmp_ne (tgt := 105) hx hb dX12_says_98 (by decide) (fun c_48 => ?_) (fun c_48 => ?_)
        · replace h := itn h c_48
          exact hb_105 x2 x3 x4 σ1 H locs ls h hB (lv_sub hl [0, 1, 2, 3] rfl)
        · replace h := itp h c_48
          exact hb_101 x2 x3 x4 σ1 H locs ls h hB (lv_sub hl [0, 1, 2, 3] rfl)
  suffices hmain : ∀ (H : Heap) (locs : List Loc) (ls : Array Slot), tB g P σ A s.heap H locs → lv_has ls 6 [(0, .ref (gL g 40)), (1, .int a1), (2, .int a2)] → WQ p l e { frames := 3, cells := 0, slots := 0, locals := 82 } s m args below meth c g P A (some (.int r)) τ H locs (F0 m 0 ls []) from hmain _ _ ls0 hB0 hl0
  intro H locs ls hB hl
  unfold f_X12_says at h
  refine lv_aload_n hx hb dX12_says_0 rfl (lv_at hl 0 rfl) ?_
  refine lv_iload_n hx hb dX12_says_1 rfl (lv_at hl 1 rfl) ?_
  replace h := b2_eq h; obtain ⟨r_1, s_2, hc_3, h⟩ := h
  refine R_call (rest := []) [.int r_1] (R_runV (n := 1) (As := [.int a1]) ⟨hx, hb, hml, hown, ht⟩ (fun _ h9 => h9) hK hZ hA hB (c_X12_isShelf l g P σ a1 H.size hc_3) (R_recv hK hB (by decide) (cell_8 rfl) rfl) tw1038 tw1035 tw1037 pw25 tw5 ⟨by decide, by decide, by decide⟩ rfl rfl ⟨Nat.le_of_ble_eq_true rfl, Nat.le_of_ble_eq_true rfl⟩ rfl hl.1 rfl (Nat.le_of_ble_eq_true rfl) dX12_says_2 ⟨Nat.zero_le _, Nat.zero_le _⟩) hB hA rfl (fun H locs hB => ?_)
  refine lv_if_eq (tgt := 18) hx hb dX12_says_5 (by decide) (fun c_4 => ?_) (fun c_4 => ?_)
  · replace h := itp h c_4
    exact hb_18 s_2 H locs ls h hB (lv_sub hl [0] rfl)
  · replace h := itn h c_4
    refine lv_iload_n hx hb dX12_says_8 rfl (lv_at hl 2 rfl) ?_
    refine lv_if_lt (tgt := 18) hx hb dX12_says_9 (by decide) (fun c_8 => ?_) (fun c_8 => ?_)
    · replace h := itp h c_8
      exact hb_18 s_2 H locs ls h hB (lv_sub hl [0] rfl)
    · replace h := itn h c_8
      refine lv_iload_n hx hb dX12_says_12 rfl (lv_at hl 2 rfl) ?_
      refine lv_bipush (v := 6) hx hb dX12_says_13 (by decide) ?_
      refine lv_icmp_le (tgt := 24) hx hb dX12_says_15 (by decide) (fun c_9 => ?_) (fun c_9 => ?_)
      · replace h := itp h c_9
        refine lv_aload_n hx hb dX12_says_24 rfl (lv_at hl 0 rfl) ?_
        refine R_get (v := .ref (gL g 50)) hx hb ht ui_X12 hown hK hB (by decide) (cell_8 rfl) rfl 10 (by decide) (ht _ tw926) (fun _ h9 => h9) rfl dX12_says_25 ?_
        refine lv_iload_n hx hb dX12_says_28 rfl (lv_at hl 1 rfl) ?_
        replace h := ck_eq h; obtain ⟨q_10, h⟩ := h
        refine R_iald hx hb hK hB rfl (inb_eq q_10) dX12_says_29 ?_
        refine lv_iconst (v := 1) hx hb dX12_says_30 (by decide) ?_
        refine lv_icmp_ne (tgt := 41) hx hb dX12_says_31 (by decide) (fun c_11 => ?_) (fun c_11 => ?_)
        · replace h := itn h c_11
          refine lv_aload_n hx hb dX12_says_41 rfl (lv_at hl 0 rfl) ?_
          refine R_get (v := .ref (gL g 50)) hx hb ht ui_X12 hown hK hB (by decide) (cell_8 rfl) rfl 10 (by decide) (ht _ tw926) (fun _ h9 => h9) rfl dX12_says_42 ?_
          refine lv_iload_n hx hb dX12_says_45 rfl (lv_at hl 1 rfl) ?_
          refine R_iald hx hb hK hB rfl (inb_eq q_10) dX12_says_46 ?_
          refine lv_if_ne (tgt := 57) hx hb dX12_says_47 (by decide) (fun c_12 => ?_) (fun c_12 => ?_)
          · replace h := itn h c_12
            refine lv_aload_n hx hb dX12_says_57 rfl (lv_at hl 0 rfl) ?_
            refine R_get (v := .ref (gL g 53)) hx hb ht ui_X12 hown hK hB (by decide) (cell_8 rfl) rfl 13 (by decide) (ht _ tw929) (fun _ h9 => h9) rfl dX12_says_58 ?_
            refine lv_iload_n hx hb dX12_says_61 rfl (lv_at hl 1 rfl) ?_
            refine R_iald hx hb hK hB rfl (inb_eq q_10) dX12_says_62 ?_
            refine lv_istore_n (lv' := [(3, .int (hI s_2 53 a1.toNatClampNeg)), (0, .ref (gL g 40)), (1, .int a1), (2, .int a2)]) hx hb dX12_says_63 rfl hl (by decide) rfl (fun ls hl => ?_)
            refine lv_aload_n hx hb dX12_says_64 rfl (lv_at hl 1 rfl) ?_
            refine R_get (v := .ref (gL g 46)) hx hb ht ui_X12 hown hK hB (by decide) (cell_8 rfl) rfl 6 (by decide) (ht _ tw922) (fun _ h9 => h9) rfl dX12_says_65 ?_
            refine lv_iload_n hx hb dX12_says_68 rfl (lv_at hl 0 rfl) ?_
            replace h := ck_eq h; obtain ⟨q_13, h⟩ := h
            refine R_iald hx hb hK hB rfl (inb_eq q_13) dX12_says_69 ?_
            refine lv_istore (lv' := [(4, .int (hI s_2 46 (hI s_2 53 a1.toNatClampNeg).toNatClampNeg)), (3, .int (hI s_2 53 a1.toNatClampNeg)), (0, .ref (gL g 40)), (1, .int a1), (2, .int a2)]) hx hb dX12_says_70 hl (by decide) rfl (fun ls hl => ?_)
            refine lv_iload_n hx hb dX12_says_72 rfl (lv_at hl 4 rfl) ?_
            refine lv_iconst (v := 1) hx hb dX12_says_73 (by decide) ?_
            refine lv_icmp_ne (tgt := 83) hx hb dX12_says_74 (by decide) (fun c_14 => ?_) (fun c_14 => ?_)
            · replace h := itn h c_14
              exact hb_83 a2 (hI s_2 53 a1.toNatClampNeg) (hI s_2 46 (hI s_2 53 a1.toNatClampNeg).toNatClampNeg) s_2 H locs ls h hB (lv_sub hl [2, 4, 1, 0] rfl)
            · replace h := itp h c_14
              refine lv_iload hx hb dX12_says_77 (lv_at hl 0 rfl) ?_
              refine lv_iconst (v := 3) hx hb dX12_says_79 (by decide) ?_
              refine lv_icmp_eq (tgt := 101) hx hb dX12_says_80 (by decide) (fun c_49 => ?_) (fun c_49 => ?_)
              · replace h := itp h c_49
                exact hb_101 a2 (hI s_2 53 a1.toNatClampNeg) (hI s_2 46 (hI s_2 53 a1.toNatClampNeg).toNatClampNeg) s_2 H locs ls h hB (lv_sub hl [2, 4, 1, 0] rfl)
              · replace h := itn h c_49
                exact hb_83 a2 (hI s_2 53 a1.toNatClampNeg) (hI s_2 46 (hI s_2 53 a1.toNatClampNeg).toNatClampNeg) s_2 H locs ls h hB (lv_sub hl [2, 4, 1, 0] rfl)
          · replace h := itp h c_12
            refine lv_aload_n hx hb dX12_says_50 rfl (lv_at hl 0 rfl) ?_
            refine lv_bipush (v := -3) hx hb dX12_says_51 (by decide) ?_
            replace h := b2_eq h; obtain ⟨r_50, s_51, hc_52, h⟩ := h
            refine R_call (rest := []) [.int r_50] (R_runV (n := 1) (As := [.int (-3 : Int32)]) ⟨hx, hb, hml, hown, ht⟩ (fun _ h9 => h9) hK hZ hA hB (c_X12_no l g P s_2 (-3 : Int32) H.size hc_52) (R_recv hK hB (by decide) (cell_8 rfl) rfl) tw1042 tw1039 tw1041 pw26 tw5 ⟨by decide, by decide, by decide⟩ rfl rfl ⟨Nat.le_of_ble_eq_true rfl, Nat.le_of_ble_eq_true rfl⟩ rfl hl.1 rfl (Nat.le_of_ble_eq_true rfl) dX12_says_53 ⟨Nat.zero_le _, Nat.zero_le _⟩) hB hA rfl (fun H locs hB => ?_)
            obtain ⟨rfl, rfl⟩ := Prod.mk.inj (Option.some.inj h)
            exact W.iret hx hb hr (R_end hB) hB.2.2.2.2 dX12_says_56
        · replace h := itp h c_11
          refine lv_aload_n hx hb dX12_says_34 rfl (lv_at hl 0 rfl) ?_
          refine lv_bipush (v := -2) hx hb dX12_says_35 (by decide) ?_
          replace h := b2_eq h; obtain ⟨r_53, s_54, hc_55, h⟩ := h
          refine R_call (rest := []) [.int r_53] (R_runV (n := 1) (As := [.int (-2 : Int32)]) ⟨hx, hb, hml, hown, ht⟩ (fun _ h9 => h9) hK hZ hA hB (c_X12_no l g P s_2 (-2 : Int32) H.size hc_55) (R_recv hK hB (by decide) (cell_8 rfl) rfl) tw1042 tw1039 tw1041 pw26 tw5 ⟨by decide, by decide, by decide⟩ rfl rfl ⟨Nat.le_of_ble_eq_true rfl, Nat.le_of_ble_eq_true rfl⟩ rfl hl.1 rfl (Nat.le_of_ble_eq_true rfl) dX12_says_37 ⟨Nat.zero_le _, Nat.zero_le _⟩) hB hA rfl (fun H locs hB => ?_)
          obtain ⟨rfl, rfl⟩ := Prod.mk.inj (Option.some.inj h)
          exact W.iret hx hb hr (R_end hB) hB.2.2.2.2 dX12_says_40
      · replace h := itn h c_9
        exact hb_18 s_2 H locs ls h hB (lv_sub hl [0] rfl)
def f_X12_wanted (a1 : Int32) (σ : Hp) : Option (Int32 × Hp) := b2 (f_X12_isShelf a1 σ) (fun r_1 s_2 => if r_1 = 0 then some ((-1 : Int32), s_2) else ck (inb a1 8 = true) (if (hI s_2 50 a1.toNatClampNeg) = (2 : Int32) then some ((-2 : Int32), s_2) else if (hI s_2 50 a1.toNatClampNeg) = 0 then some ((-3 : Int32), s_2) else some ((0 : Int32), s_2)))
set_option maxHeartbeats 4000000 in
set_option maxRecDepth 100000 in
theorem c_X12_wanted (l : Launch) (g : tG) (P : Nat → Nat) (σ : Hp) (a1 : Int32) (sz : Nat) {r : Int32} {τ : Hp} (h : f_X12_wanted a1 σ = some (r, τ)) : Met l yX12_wanted (Cond.code yX12_wanted cX12_wanted 2 (some .int) :: tblG) ({ frames := 1, cells := 0, slots := 0, locals := 21 }) (va_Pc [.ref (gL g 40), .int a1] (tPre g P σ sz)) (tQ (some (.int r)) (tPost g P τ (va_A (wC g P σ) sz)) (va_A (wC g P σ) sz)) 0 0 (va_A (wC g P σ) sz) := by
  refine T_start (B := fun A => tPost g P τ A) (by decide) (Nat.le_of_ble_eq_true rfl) ?_
  intro p e s m args below meth c ls0 A hx hb hml hr hown hlocks ht hnm hK hZ hA hB0 hl0
  suffices hmain : ∀ (H : Heap) (locs : List Loc) (ls : Array Slot), tB g P σ A s.heap H locs → lv_has ls 2 [(0, .ref (gL g 40)), (1, .int a1)] → WQ p l e { frames := 1, cells := 0, slots := 0, locals := 21 } s m args below meth c g P A (some (.int r)) τ H locs (F0 m 0 ls []) from hmain _ _ ls0 hB0 hl0
  intro H locs ls hB hl
  unfold f_X12_wanted at h
  refine lv_aload_n hx hb dX12_wanted_0 rfl (lv_at hl 0 rfl) ?_
  refine lv_iload_n hx hb dX12_wanted_1 rfl (lv_at hl 1 rfl) ?_
  replace h := b2_eq h; obtain ⟨r_1, s_2, hc_3, h⟩ := h
  refine R_call (rest := []) [.int r_1] (R_runV (n := 1) (As := [.int a1]) ⟨hx, hb, hml, hown, ht⟩ (fun _ h9 => h9) hK hZ hA hB (c_X12_isShelf l g P σ a1 H.size hc_3) (R_recv hK hB (by decide) (cell_8 rfl) rfl) tw1038 tw1035 tw1037 pw25 tw5 ⟨by decide, by decide, by decide⟩ rfl rfl ⟨Nat.le_of_ble_eq_true rfl, Nat.le_of_ble_eq_true rfl⟩ rfl hl.1 rfl (Nat.le_of_ble_eq_true rfl) dX12_wanted_2 ⟨Nat.zero_le _, Nat.zero_le _⟩) hB hA rfl (fun H locs hB => ?_)
  refine lv_if_ne (tgt := 12) hx hb dX12_wanted_5 (by decide) (fun c_4 => ?_) (fun c_4 => ?_)
  · replace h := itn h c_4
    refine lv_aload_n hx hb dX12_wanted_12 rfl (lv_at hl 0 rfl) ?_
    refine R_get (v := .ref (gL g 50)) hx hb ht ui_X12 hown hK hB (by decide) (cell_8 rfl) rfl 10 (by decide) (ht _ tw926) (fun _ h9 => h9) rfl dX12_wanted_13 ?_
    refine lv_iload_n hx hb dX12_wanted_16 rfl (lv_at hl 1 rfl) ?_
    replace h := ck_eq h; obtain ⟨q_5, h⟩ := h
    refine R_iald hx hb hK hB rfl (inb_eq q_5) dX12_wanted_17 ?_
    refine lv_iconst (v := 2) hx hb dX12_wanted_18 (by decide) ?_
    refine lv_icmp_ne (tgt := 27) hx hb dX12_wanted_19 (by decide) (fun c_6 => ?_) (fun c_6 => ?_)
    · replace h := itn h c_6
      refine lv_aload_n hx hb dX12_wanted_27 rfl (lv_at hl 0 rfl) ?_
      refine R_get (v := .ref (gL g 50)) hx hb ht ui_X12 hown hK hB (by decide) (cell_8 rfl) rfl 10 (by decide) (ht _ tw926) (fun _ h9 => h9) rfl dX12_wanted_28 ?_
      refine lv_iload_n hx hb dX12_wanted_31 rfl (lv_at hl 1 rfl) ?_
      refine R_iald hx hb hK hB rfl (inb_eq q_5) dX12_wanted_32 ?_
      refine lv_if_ne (tgt := 41) hx hb dX12_wanted_33 (by decide) (fun c_7 => ?_) (fun c_7 => ?_)
      · replace h := itn h c_7
        refine lv_iconst (v := 0) hx hb dX12_wanted_41 (by decide) ?_
        obtain ⟨rfl, rfl⟩ := Prod.mk.inj (Option.some.inj h)
        exact W.iret hx hb hr (R_end hB) hB.2.2.2.2 dX12_wanted_42
      · replace h := itp h c_7
        refine lv_bipush (v := -3) hx hb dX12_wanted_36 (by decide) ?_
        refine lv_goto (tgt := 42) hx hb dX12_wanted_38 (by decide) ?_
        obtain ⟨rfl, rfl⟩ := Prod.mk.inj (Option.some.inj h)
        exact W.iret hx hb hr (R_end hB) hB.2.2.2.2 dX12_wanted_42
    · replace h := itp h c_6
      refine lv_bipush (v := -2) hx hb dX12_wanted_22 (by decide) ?_
      refine lv_goto (tgt := 42) hx hb dX12_wanted_24 (by decide) ?_
      obtain ⟨rfl, rfl⟩ := Prod.mk.inj (Option.some.inj h)
      exact W.iret hx hb hr (R_end hB) hB.2.2.2.2 dX12_wanted_42
  · replace h := itp h c_4
    refine lv_iconst (v := -1) hx hb dX12_wanted_8 (by decide) ?_
    refine lv_goto (tgt := 42) hx hb dX12_wanted_9 (by decide) ?_
    obtain ⟨rfl, rfl⟩ := Prod.mk.inj (Option.some.inj h)
    exact W.iret hx hb hr (R_end hB) hB.2.2.2.2 dX12_wanted_42
def f_X12_bars_b47 (σ1 : Hp) : Option (Int32 × Hp) := some ((-6 : Int32), σ1)
def f_X12_bars (a1 : Int32) (a2 : Int32) (σ : Hp) : Option (Int32 × Hp) := b2 (f_X12_wanted a1 σ) (fun r_1 s_2 => if r_1 = 0 then if 0 ≤ a2 then ck (inb a1 8 = true) (if a2 ≤ (hI s_2 52 a1.toNatClampNeg) then if a2 < (1 : Int32) then f_X12_bars_b47 s_2 else if a2 ≤ (20 : Int32) then some ((0 : Int32), s_2) else f_X12_bars_b47 s_2 else some ((-5 : Int32), s_2)) else some ((-4 : Int32), s_2) else some (r_1, s_2))
set_option maxHeartbeats 4000000 in
set_option maxRecDepth 100000 in
theorem c_X12_bars (l : Launch) (g : tG) (P : Nat → Nat) (σ : Hp) (a1 : Int32) (a2 : Int32) (sz : Nat) {r : Int32} {τ : Hp} (h : f_X12_bars a1 a2 σ = some (r, τ)) : Met l yX12_bars (Cond.code yX12_bars cX12_bars 4 (some .int) :: tblG) ({ frames := 2, cells := 0, slots := 0, locals := 42 }) (va_Pc [.ref (gL g 40), .int a1, .int a2] (tPre g P σ sz)) (tQ (some (.int r)) (tPost g P τ (va_A (wC g P σ) sz)) (va_A (wC g P σ) sz)) 0 0 (va_A (wC g P σ) sz) := by
  refine T_start (B := fun A => tPost g P τ A) (by decide) (Nat.le_of_ble_eq_true rfl) ?_
  intro p e s m args below meth c ls0 A hx hb hml hr hown hlocks ht hnm hK hZ hA hB0 hl0
  have hb_47 : ∀ (σ1 : Hp) (H : Heap) (locs : List Loc) (ls : Array Slot), f_X12_bars_b47 σ1 = some (r, τ) → tB g P σ1 A s.heap H locs → lv_has ls 4 [] → WQ p l e { frames := 2, cells := 0, slots := 0, locals := 42 } s m args below meth c g P A (some (.int r)) τ H locs (F0 m 47 ls []) := by
    intro σ1 H locs ls h hB hl
    unfold f_X12_bars_b47 at h
    refine lv_bipush (v := -6) hx hb dX12_bars_47 (by decide) ?_
    refine lv_goto (tgt := 53) hx hb dX12_bars_49 (by decide) ?_
    obtain ⟨rfl, rfl⟩ := Prod.mk.inj (Option.some.inj h)
    exact W.iret hx hb hr (R_end hB) hB.2.2.2.2 dX12_bars_53
  suffices hmain : ∀ (H : Heap) (locs : List Loc) (ls : Array Slot), tB g P σ A s.heap H locs → lv_has ls 4 [(0, .ref (gL g 40)), (1, .int a1), (2, .int a2)] → WQ p l e { frames := 2, cells := 0, slots := 0, locals := 42 } s m args below meth c g P A (some (.int r)) τ H locs (F0 m 0 ls []) from hmain _ _ ls0 hB0 hl0
  intro H locs ls hB hl
  unfold f_X12_bars at h
  refine lv_aload_n hx hb dX12_bars_0 rfl (lv_at hl 0 rfl) ?_
  refine lv_iload_n hx hb dX12_bars_1 rfl (lv_at hl 1 rfl) ?_
  replace h := b2_eq h; obtain ⟨r_1, s_2, hc_3, h⟩ := h
  refine R_call (rest := []) [.int r_1] (R_runV (n := 1) (As := [.int a1]) ⟨hx, hb, hml, hown, ht⟩ (fun _ h9 => h9) hK hZ hA hB (c_X12_wanted l g P σ a1 H.size hc_3) (R_recv hK hB (by decide) (cell_8 rfl) rfl) tw1125 tw1122 tw1124 pw34 tw5 ⟨by decide, by decide, by decide⟩ rfl rfl ⟨Nat.le_of_ble_eq_true rfl, Nat.le_of_ble_eq_true rfl⟩ rfl hl.1 rfl (Nat.le_of_ble_eq_true rfl) dX12_bars_2 ⟨Nat.zero_le _, Nat.zero_le _⟩) hB hA rfl (fun H locs hB => ?_)
  refine lv_istore_n (lv' := [(3, .int r_1), (0, .ref (gL g 40)), (1, .int a1), (2, .int a2)]) hx hb dX12_bars_5 rfl hl (by decide) rfl (fun ls hl => ?_)
  refine lv_iload_n hx hb dX12_bars_6 rfl (lv_at hl 0 rfl) ?_
  refine lv_if_eq (tgt := 12) hx hb dX12_bars_7 (by decide) (fun c_4 => ?_) (fun c_4 => ?_)
  · replace h := itp h c_4
    refine lv_iload_n hx hb dX12_bars_12 rfl (lv_at hl 3 rfl) ?_
    refine lv_if_ge (tgt := 21) hx hb dX12_bars_13 (by decide) (fun c_5 => ?_) (fun c_5 => ?_)
    · replace h := itp h c_5
      refine lv_iload_n hx hb dX12_bars_21 rfl (lv_at hl 3 rfl) ?_
      refine lv_aload_n hx hb dX12_bars_22 rfl (lv_at hl 1 rfl) ?_
      refine R_get (v := .ref (gL g 52)) hx hb ht ui_X12 hown hK hB (by decide) (cell_8 rfl) rfl 12 (by decide) (ht _ tw928) (fun _ h9 => h9) rfl dX12_bars_23 ?_
      refine lv_iload_n hx hb dX12_bars_26 rfl (lv_at hl 2 rfl) ?_
      replace h := ck_eq h; obtain ⟨q_6, h⟩ := h
      refine R_iald hx hb hK hB rfl (inb_eq q_6) dX12_bars_27 ?_
      refine lv_icmp_le (tgt := 36) hx hb dX12_bars_28 (by decide) (fun c_7 => ?_) (fun c_7 => ?_)
      · replace h := itp h c_7
        refine lv_iload_n hx hb dX12_bars_36 rfl (lv_at hl 3 rfl) ?_
        refine lv_iconst (v := 1) hx hb dX12_bars_37 (by decide) ?_
        refine lv_icmp_lt (tgt := 47) hx hb dX12_bars_38 (by decide) (fun c_8 => ?_) (fun c_8 => ?_)
        · replace h := itp h c_8
          exact hb_47 s_2 H locs ls h hB (lv_sub hl [] rfl)
        · replace h := itn h c_8
          refine lv_iload_n hx hb dX12_bars_41 rfl (lv_at hl 3 rfl) ?_
          refine lv_bipush (v := 20) hx hb dX12_bars_42 (by decide) ?_
          refine lv_icmp_le (tgt := 52) hx hb dX12_bars_44 (by decide) (fun c_9 => ?_) (fun c_9 => ?_)
          · replace h := itp h c_9
            refine lv_iconst (v := 0) hx hb dX12_bars_52 (by decide) ?_
            obtain ⟨rfl, rfl⟩ := Prod.mk.inj (Option.some.inj h)
            exact W.iret hx hb hr (R_end hB) hB.2.2.2.2 dX12_bars_53
          · replace h := itn h c_9
            exact hb_47 s_2 H locs ls h hB (lv_sub hl [] rfl)
      · replace h := itn h c_7
        refine lv_bipush (v := -5) hx hb dX12_bars_31 (by decide) ?_
        refine lv_goto (tgt := 53) hx hb dX12_bars_33 (by decide) ?_
        obtain ⟨rfl, rfl⟩ := Prod.mk.inj (Option.some.inj h)
        exact W.iret hx hb hr (R_end hB) hB.2.2.2.2 dX12_bars_53
    · replace h := itn h c_5
      refine lv_bipush (v := -4) hx hb dX12_bars_16 (by decide) ?_
      refine lv_goto (tgt := 53) hx hb dX12_bars_18 (by decide) ?_
      obtain ⟨rfl, rfl⟩ := Prod.mk.inj (Option.some.inj h)
      exact W.iret hx hb hr (R_end hB) hB.2.2.2.2 dX12_bars_53
  · replace h := itn h c_4
    refine lv_iload_n hx hb dX12_bars_10 rfl (lv_at hl 0 rfl) ?_
    obtain ⟨rfl, rfl⟩ := Prod.mk.inj (Option.some.inj h)
    exact W.iret hx hb hr (R_end hB) hB.2.2.2.2 dX12_bars_11
def f_X12_base_b11 (σ1 : Hp) : Option (Int32 × Hp) := b2 (f_X12_no (-6 : Int32) σ1) (fun r_2 s_3 => some (r_2, s_3))
def f_X12_base (a1 : Int32) (σ : Hp) : Option (Int32 × Hp) := if a1 < (2 : Int32) then f_X12_base_b11 σ else if a1 ≤ (10 : Int32) then some ((hI σ 40 2), (sI σ 40 2 a1)) else f_X12_base_b11 σ
set_option maxHeartbeats 4000000 in
set_option maxRecDepth 100000 in
theorem c_X12_base (l : Launch) (g : tG) (P : Nat → Nat) (σ : Hp) (a1 : Int32) (sz : Nat) {r : Int32} {τ : Hp} (h : f_X12_base a1 σ = some (r, τ)) : Met l yX12_base (Cond.code yX12_base cX12_base 3 (some .int) :: tblG) ({ frames := 1, cells := 0, slots := 0, locals := 21 }) (va_Pc [.ref (gL g 40), .int a1] (tPre g P σ sz)) (tQ (some (.int r)) (tPost g P τ (va_A (wC g P σ) sz)) (va_A (wC g P σ) sz)) 0 0 (va_A (wC g P σ) sz) := by
  refine T_start (B := fun A => tPost g P τ A) (by decide) (Nat.le_of_ble_eq_true rfl) ?_
  intro p e s m args below meth c ls0 A hx hb hml hr hown hlocks ht hnm hK hZ hA hB0 hl0
  have hb_11 : ∀ (σ1 : Hp) (H : Heap) (locs : List Loc) (ls : Array Slot), f_X12_base_b11 σ1 = some (r, τ) → tB g P σ1 A s.heap H locs → lv_has ls 3 [(0, .ref (gL g 40))] → WQ p l e { frames := 1, cells := 0, slots := 0, locals := 21 } s m args below meth c g P A (some (.int r)) τ H locs (F0 m 11 ls []) := by
    intro σ1 H locs ls h hB hl
    unfold f_X12_base_b11 at h
    refine lv_aload_n hx hb dX12_base_11 rfl (lv_at hl 0 rfl) ?_
    refine lv_bipush (v := -6) hx hb dX12_base_12 (by decide) ?_
    replace h := b2_eq h; obtain ⟨r_2, s_3, hc_4, h⟩ := h
    refine R_call (rest := []) [.int r_2] (R_runV (n := 1) (As := [.int (-6 : Int32)]) ⟨hx, hb, hml, hown, ht⟩ (fun _ h9 => h9) hK hZ hA hB (c_X12_no l g P σ1 (-6 : Int32) H.size hc_4) (R_recv hK hB (by decide) (cell_8 rfl) rfl) tw1042 tw1039 tw1041 pw26 tw5 ⟨by decide, by decide, by decide⟩ rfl rfl ⟨Nat.le_of_ble_eq_true rfl, Nat.le_of_ble_eq_true rfl⟩ rfl hl.1 rfl (Nat.le_of_ble_eq_true rfl) dX12_base_14 ⟨Nat.zero_le _, Nat.zero_le _⟩) hB hA rfl (fun H locs hB => ?_)
    obtain ⟨rfl, rfl⟩ := Prod.mk.inj (Option.some.inj h)
    exact W.iret hx hb hr (R_end hB) hB.2.2.2.2 dX12_base_17
  suffices hmain : ∀ (H : Heap) (locs : List Loc) (ls : Array Slot), tB g P σ A s.heap H locs → lv_has ls 3 [(0, .ref (gL g 40)), (1, .int a1)] → WQ p l e { frames := 1, cells := 0, slots := 0, locals := 21 } s m args below meth c g P A (some (.int r)) τ H locs (F0 m 0 ls []) from hmain _ _ ls0 hB0 hl0
  intro H locs ls hB hl
  unfold f_X12_base at h
  refine lv_iload_n hx hb dX12_base_0 rfl (lv_at hl 1 rfl) ?_
  refine lv_iconst (v := 2) hx hb dX12_base_1 (by decide) ?_
  refine lv_icmp_lt (tgt := 11) hx hb dX12_base_2 (by decide) (fun c_1 => ?_) (fun c_1 => ?_)
  · replace h := itp h c_1
    exact hb_11 σ H locs ls h hB (lv_sub hl [0] rfl)
  · replace h := itn h c_1
    refine lv_iload_n hx hb dX12_base_5 rfl (lv_at hl 1 rfl) ?_
    refine lv_bipush (v := 10) hx hb dX12_base_6 (by decide) ?_
    refine lv_icmp_le (tgt := 18) hx hb dX12_base_8 (by decide) (fun c_5 => ?_) (fun c_5 => ?_)
    · replace h := itp h c_5
      refine lv_aload_n hx hb dX12_base_18 rfl (lv_at hl 0 rfl) ?_
      refine R_get (v := .int (hI σ 40 2)) hx hb ht ui_X12 hown hK hB (by decide) (cell_8 rfl) rfl 2 (by decide) (ht _ tw918) (fun _ h9 => h9) rfl dX12_base_19 ?_
      refine lv_istore_n (lv' := [(2, .int (hI σ 40 2)), (0, .ref (gL g 40)), (1, .int a1)]) hx hb dX12_base_22 rfl hl (by decide) rfl (fun ls hl => ?_)
      refine lv_aload_n hx hb dX12_base_23 rfl (lv_at hl 1 rfl) ?_
      refine lv_iload_n hx hb dX12_base_24 rfl (lv_at hl 2 rfl) ?_
      refine R_putI (v := a1) (ty := .int) hx hb ht ui_X12 tyX12 tyX12_ok nmX12 hown hK hB (by decide) (cell_8 rfl) rfl 2 (by decide) (ht _ tw918) (fun _ h9 => h9) rfl (by decide +kernel) rfl rfl (Nat.le_of_ble_eq_true rfl) (st8_2 rfl) dX12_base_25 (fun H locs hB => ?_)
      refine lv_iload_n hx hb dX12_base_28 rfl (lv_at hl 0 rfl) ?_
      obtain ⟨rfl, rfl⟩ := Prod.mk.inj (Option.some.inj h)
      exact W.iret hx hb hr (R_end hB) hB.2.2.2.2 dX12_base_29
    · replace h := itn h c_5
      exact hb_11 σ H locs ls h hB (lv_sub hl [0] rfl)
def f_X12_adds_t22 (x3 : Int32) (σ1 : Hp) : Option ((Int32 × Hp) ⊕ (Int32 × Hp)) := if (10 : Int32) ≤ x3 then ex (some ((hI σ1 40 0), (sI σ1 40 0 ((hI σ1 40 0) + (1 : Int32))))) else ck (inb (((10 : Int32) * (hI σ1 40 0)) + x3) 60 = true) (some (.inl ((x3 + 1), (sI σ1 48 (((10 : Int32) * (hI σ1 40 0)) + x3).toNatClampNeg (0 : Int32)))))
def f_X12_adds_s22 (v : (Int32 × Hp)) : Option ((Int32 × Hp) ⊕ (Int32 × Hp)) := f_X12_adds_t22 v.1 v.2
def f_X12_adds (a1 : Int32) (a2 : Int32) (σ : Hp) : Option (Int32 × Hp) := ck (inb (hI σ 40 0) 6 = true) (ck (inb (hI (sI σ 46 (hI σ 40 0).toNatClampNeg a1) 40 0) 6 = true) (iter (f_X12_adds_s22) fuel ((0 : Int32), (sI (sI σ 46 (hI σ 40 0).toNatClampNeg a1) 47 (hI (sI σ 46 (hI σ 40 0).toNatClampNeg a1) 40 0).toNatClampNeg a2))))
set_option maxHeartbeats 4000000 in
set_option maxRecDepth 100000 in
theorem c_X12_adds (l : Launch) (g : tG) (P : Nat → Nat) (σ : Hp) (a1 : Int32) (a2 : Int32) (sz : Nat) {r : Int32} {τ : Hp} (h : f_X12_adds a1 a2 σ = some (r, τ)) : Met l yX12_adds (Cond.code yX12_adds cX12_adds 4 (some .int) :: tblG) ({ frames := 0, cells := 0, slots := 0, locals := 0 }) (va_Pc [.ref (gL g 40), .int a1, .int a2] (tPre g P σ sz)) (tQ (some (.int r)) (tPost g P τ (va_A (wC g P σ) sz)) (va_A (wC g P σ) sz)) 0 0 (va_A (wC g P σ) sz) := by
  refine T_start (B := fun A => tPost g P τ A) (by decide) (Nat.le_of_ble_eq_true rfl) ?_
  intro p e s m args below meth c ls0 A hx hb hml hr hown hlocks ht hnm hK hZ hA hB0 hl0
  have hL_22 : ∀ (n : Nat) (x3 : Int32) (σ1 : Hp) (H : Heap) (locs : List Loc) (ls : Array Slot), iter (f_X12_adds_s22) n (x3, σ1) = some (r, τ) → tB g P σ1 A s.heap H locs → lv_has ls 4 [(0, .ref (gL g 40)), (3, .int x3)] → WQ p l e { frames := 0, cells := 0, slots := 0, locals := 0 } s m args below meth c g P A (some (.int r)) τ H locs (F0 m 22 ls []) := by
    intro n
    induction n with
    | zero =>
      intro x3 σ1 H locs ls h hB hl
      exact (iter_0 h).elim
    | succ n ih1 =>
      intro x3 σ1 H locs ls h hB hl
      replace h := iter_eq h; obtain ⟨z1, hh1, hx1⟩ := h
      have h : f_X12_adds_t22 x3 σ1 = some z1 := hh1
      clear hh1
      unfold f_X12_adds_t22 at h
      refine lv_iload_n hx hb dX12_adds_22 rfl (lv_at hl 1 rfl) ?_
      refine lv_bipush (v := 10) hx hb dX12_adds_23 (by decide) ?_
      refine lv_icmp_ge (tgt := 49) hx hb dX12_adds_25 (by decide) (fun c_3 => ?_) (fun c_3 => ?_)
      · replace h := itp h c_3
        replace h := ex_eq h; obtain ⟨b1, h, hz1⟩ := h
        subst hz1
        have hz1 := (itk_inr hx1).symm
        subst hz1
        refine lv_aload_n hx hb dX12_adds_49 rfl (lv_at hl 0 rfl) ?_
        refine lv_dup hx hb dX12_adds_50 rfl ?_
        refine R_get (v := .int (hI σ1 40 0)) hx hb ht ui_X12 hown hK hB (by decide) (cell_8 rfl) rfl 0 (by decide) (ht _ tw916) (fun _ h9 => h9) rfl dX12_adds_51 ?_
        refine lv_dup_x1 hx hb dX12_adds_54 rfl rfl ?_
        refine lv_iconst (v := 1) hx hb dX12_adds_55 (by decide) ?_
        refine lv_iadd hx hb dX12_adds_56 ?_
        refine R_putI (v := ((hI σ1 40 0) + (1 : Int32))) (ty := .int) hx hb ht ui_X12 tyX12 tyX12_ok nmX12 hown hK hB (by decide) (cell_8 rfl) rfl 0 (by decide) (ht _ tw916) (fun _ h9 => h9) rfl (by decide +kernel) rfl rfl (Nat.le_of_ble_eq_true rfl) (st8_0 rfl) dX12_adds_57 (fun H locs hB => ?_)
        obtain ⟨rfl, rfl⟩ := Prod.mk.inj (Option.some.inj h)
        exact W.iret hx hb hr (R_end hB) hB.2.2.2.2 dX12_adds_60
      · replace h := itn h c_3
        refine lv_aload_n hx hb dX12_adds_28 rfl (lv_at hl 0 rfl) ?_
        refine R_get (v := .ref (gL g 48)) hx hb ht ui_X12 hown hK hB (by decide) (cell_8 rfl) rfl 8 (by decide) (ht _ tw924) (fun _ h9 => h9) rfl dX12_adds_29 ?_
        refine lv_bipush (v := 10) hx hb dX12_adds_32 (by decide) ?_
        refine lv_aload_n hx hb dX12_adds_34 rfl (lv_at hl 0 rfl) ?_
        refine R_get (v := .int (hI σ1 40 0)) hx hb ht ui_X12 hown hK hB (by decide) (cell_8 rfl) rfl 0 (by decide) (ht _ tw916) (fun _ h9 => h9) rfl dX12_adds_35 ?_
        refine lv_imul hx hb dX12_adds_38 ?_
        refine lv_iload_n hx hb dX12_adds_39 rfl (lv_at hl 1 rfl) ?_
        refine lv_iadd hx hb dX12_adds_40 ?_
        refine lv_iconst (v := 0) hx hb dX12_adds_41 (by decide) ?_
        replace h := ck_eq h; obtain ⟨q_4, h⟩ := h
        refine R_iast hx hb hK hB rfl (inb_eq q_4) dX12_adds_42 (fun H locs hB => ?_)
        refine lv_iinc (v := x3 + 1) (lv' := [(3, .int (x3 + 1)), (0, .ref (gL g 40))]) hx hb dX12_adds_43 hl (k := 1) rfl rfl (by decide) rfl (fun ls hl => ?_)
        refine lv_goto (tgt := 22) hx hb dX12_adds_46 (by decide) ?_
        obtain rfl := Option.some.inj h
        exact ih1 (x3 + 1) (sI σ1 48 (((10 : Int32) * (hI σ1 40 0)) + x3).toNatClampNeg (0 : Int32)) H locs ls hx1 hB (lv_sub hl [1, 0] rfl)
  suffices hmain : ∀ (H : Heap) (locs : List Loc) (ls : Array Slot), tB g P σ A s.heap H locs → lv_has ls 4 [(0, .ref (gL g 40)), (1, .int a1), (2, .int a2)] → WQ p l e { frames := 0, cells := 0, slots := 0, locals := 0 } s m args below meth c g P A (some (.int r)) τ H locs (F0 m 0 ls []) from hmain _ _ ls0 hB0 hl0
  intro H locs ls hB hl
  unfold f_X12_adds at h
  refine lv_aload_n hx hb dX12_adds_0 rfl (lv_at hl 0 rfl) ?_
  refine R_get (v := .ref (gL g 46)) hx hb ht ui_X12 hown hK hB (by decide) (cell_8 rfl) rfl 6 (by decide) (ht _ tw922) (fun _ h9 => h9) rfl dX12_adds_1 ?_
  refine lv_aload_n hx hb dX12_adds_4 rfl (lv_at hl 0 rfl) ?_
  refine R_get (v := .int (hI σ 40 0)) hx hb ht ui_X12 hown hK hB (by decide) (cell_8 rfl) rfl 0 (by decide) (ht _ tw916) (fun _ h9 => h9) rfl dX12_adds_5 ?_
  refine lv_iload_n hx hb dX12_adds_8 rfl (lv_at hl 1 rfl) ?_
  replace h := ck_eq h; obtain ⟨q_1, h⟩ := h
  refine R_iast hx hb hK hB rfl (inb_eq q_1) dX12_adds_9 (fun H locs hB => ?_)
  refine lv_aload_n hx hb dX12_adds_10 rfl (lv_at hl 0 rfl) ?_
  refine R_get (v := .ref (gL g 47)) hx hb ht ui_X12 hown hK hB (by decide) (cell_8 rfl) rfl 7 (by decide) (ht _ tw923) (fun _ h9 => h9) rfl dX12_adds_11 ?_
  refine lv_aload_n hx hb dX12_adds_14 rfl (lv_at hl 0 rfl) ?_
  refine R_get (v := .int (hI (sI σ 46 (hI σ 40 0).toNatClampNeg a1) 40 0)) hx hb ht ui_X12 hown hK hB (by decide) (cell_8 rfl) rfl 0 (by decide) (ht _ tw916) (fun _ h9 => h9) rfl dX12_adds_15 ?_
  refine lv_iload_n hx hb dX12_adds_18 rfl (lv_at hl 2 rfl) ?_
  replace h := ck_eq h; obtain ⟨q_2, h⟩ := h
  refine R_iast hx hb hK hB rfl (inb_eq q_2) dX12_adds_19 (fun H locs hB => ?_)
  refine lv_iconst (v := 0) hx hb dX12_adds_20 (by decide) ?_
  refine lv_istore_n (lv' := [(3, .int (0 : Int32)), (0, .ref (gL g 40)), (1, .int a1), (2, .int a2)]) hx hb dX12_adds_21 rfl hl (by decide) rfl (fun ls hl => ?_)
  exact hL_22 fuel (0 : Int32) (sI (sI σ 46 (hI σ 40 0).toNatClampNeg a1) 47 (hI (sI σ 46 (hI σ 40 0).toNatClampNeg a1) 40 0).toNatClampNeg a2) H locs ls h hB (lv_sub hl [1, 0] rfl)
def f_X12_law_b10 (σ1 : Hp) : Option (Int32 × Hp) := b2 (f_X12_no (-1 : Int32) σ1) (fun r_2 s_3 => some (r_2, s_3))
def f_X12_law_b26 (σ1 : Hp) : Option (Int32 × Hp) := b2 (f_X12_no (-6 : Int32) σ1) (fun r_7 s_8 => some (r_7, s_8))
def f_X12_law (a1 : Int32) (a2 : Int32) (σ : Hp) : Option (Int32 × Hp) := if a1 < 0 then f_X12_law_b10 σ else if a1 ≤ (6 : Int32) then if a2 < 0 then f_X12_law_b26 σ else if a2 ≤ (9 : Int32) then if (hI σ 40 0) = (6 : Int32) then b2 (f_X12_no (-7 : Int32) σ) (fun r_15 s_16 => some (r_15, s_16)) else b2 (f_X12_adds a1 a2 σ) (fun r_12 s_13 => some (r_12, s_13)) else f_X12_law_b26 σ else f_X12_law_b10 σ
set_option maxHeartbeats 4000000 in
set_option maxRecDepth 100000 in
theorem c_X12_law (l : Launch) (g : tG) (P : Nat → Nat) (σ : Hp) (a1 : Int32) (a2 : Int32) (sz : Nat) {r : Int32} {τ : Hp} (h : f_X12_law a1 a2 σ = some (r, τ)) : Met l yX12_law (Cond.code yX12_law cX12_law 3 (some .int) :: tblG) ({ frames := 1, cells := 0, slots := 0, locals := 23 }) (va_Pc [.ref (gL g 40), .int a1, .int a2] (tPre g P σ sz)) (tQ (some (.int r)) (tPost g P τ (va_A (wC g P σ) sz)) (va_A (wC g P σ) sz)) 0 0 (va_A (wC g P σ) sz) := by
  refine T_start (B := fun A => tPost g P τ A) (by decide) (Nat.le_of_ble_eq_true rfl) ?_
  intro p e s m args below meth c ls0 A hx hb hml hr hown hlocks ht hnm hK hZ hA hB0 hl0
  have hb_10 : ∀ (σ1 : Hp) (H : Heap) (locs : List Loc) (ls : Array Slot), f_X12_law_b10 σ1 = some (r, τ) → tB g P σ1 A s.heap H locs → lv_has ls 3 [(0, .ref (gL g 40))] → WQ p l e { frames := 1, cells := 0, slots := 0, locals := 23 } s m args below meth c g P A (some (.int r)) τ H locs (F0 m 10 ls []) := by
    intro σ1 H locs ls h hB hl
    unfold f_X12_law_b10 at h
    refine lv_aload_n hx hb dX12_law_10 rfl (lv_at hl 0 rfl) ?_
    refine lv_iconst (v := -1) hx hb dX12_law_11 (by decide) ?_
    replace h := b2_eq h; obtain ⟨r_2, s_3, hc_4, h⟩ := h
    refine R_call (rest := []) [.int r_2] (R_runV (n := 1) (As := [.int (-1 : Int32)]) ⟨hx, hb, hml, hown, ht⟩ (fun _ h9 => h9) hK hZ hA hB (c_X12_no l g P σ1 (-1 : Int32) H.size hc_4) (R_recv hK hB (by decide) (cell_8 rfl) rfl) tw1042 tw1039 tw1041 pw26 tw5 ⟨by decide, by decide, by decide⟩ rfl rfl ⟨Nat.le_of_ble_eq_true rfl, Nat.le_of_ble_eq_true rfl⟩ rfl hl.1 rfl (Nat.le_of_ble_eq_true rfl) dX12_law_12 ⟨Nat.zero_le _, Nat.zero_le _⟩) hB hA rfl (fun H locs hB => ?_)
    obtain ⟨rfl, rfl⟩ := Prod.mk.inj (Option.some.inj h)
    exact W.iret hx hb hr (R_end hB) hB.2.2.2.2 dX12_law_15
  have hb_26 : ∀ (σ1 : Hp) (H : Heap) (locs : List Loc) (ls : Array Slot), f_X12_law_b26 σ1 = some (r, τ) → tB g P σ1 A s.heap H locs → lv_has ls 3 [(0, .ref (gL g 40))] → WQ p l e { frames := 1, cells := 0, slots := 0, locals := 23 } s m args below meth c g P A (some (.int r)) τ H locs (F0 m 26 ls []) := by
    intro σ1 H locs ls h hB hl
    unfold f_X12_law_b26 at h
    refine lv_aload_n hx hb dX12_law_26 rfl (lv_at hl 0 rfl) ?_
    refine lv_bipush (v := -6) hx hb dX12_law_27 (by decide) ?_
    replace h := b2_eq h; obtain ⟨r_7, s_8, hc_9, h⟩ := h
    refine R_call (rest := []) [.int r_7] (R_runV (n := 1) (As := [.int (-6 : Int32)]) ⟨hx, hb, hml, hown, ht⟩ (fun _ h9 => h9) hK hZ hA hB (c_X12_no l g P σ1 (-6 : Int32) H.size hc_9) (R_recv hK hB (by decide) (cell_8 rfl) rfl) tw1042 tw1039 tw1041 pw26 tw5 ⟨by decide, by decide, by decide⟩ rfl rfl ⟨Nat.le_of_ble_eq_true rfl, Nat.le_of_ble_eq_true rfl⟩ rfl hl.1 rfl (Nat.le_of_ble_eq_true rfl) dX12_law_29 ⟨Nat.zero_le _, Nat.zero_le _⟩) hB hA rfl (fun H locs hB => ?_)
    obtain ⟨rfl, rfl⟩ := Prod.mk.inj (Option.some.inj h)
    exact W.iret hx hb hr (R_end hB) hB.2.2.2.2 dX12_law_32
  suffices hmain : ∀ (H : Heap) (locs : List Loc) (ls : Array Slot), tB g P σ A s.heap H locs → lv_has ls 3 [(0, .ref (gL g 40)), (1, .int a1), (2, .int a2)] → WQ p l e { frames := 1, cells := 0, slots := 0, locals := 23 } s m args below meth c g P A (some (.int r)) τ H locs (F0 m 0 ls []) from hmain _ _ ls0 hB0 hl0
  intro H locs ls hB hl
  unfold f_X12_law at h
  refine lv_iload_n hx hb dX12_law_0 rfl (lv_at hl 1 rfl) ?_
  refine lv_if_lt (tgt := 10) hx hb dX12_law_1 (by decide) (fun c_1 => ?_) (fun c_1 => ?_)
  · replace h := itp h c_1
    exact hb_10 σ H locs ls h hB (lv_sub hl [0] rfl)
  · replace h := itn h c_1
    refine lv_iload_n hx hb dX12_law_4 rfl (lv_at hl 1 rfl) ?_
    refine lv_bipush (v := 6) hx hb dX12_law_5 (by decide) ?_
    refine lv_icmp_le (tgt := 16) hx hb dX12_law_7 (by decide) (fun c_5 => ?_) (fun c_5 => ?_)
    · replace h := itp h c_5
      refine lv_iload_n hx hb dX12_law_16 rfl (lv_at hl 2 rfl) ?_
      refine lv_if_lt (tgt := 26) hx hb dX12_law_17 (by decide) (fun c_6 => ?_) (fun c_6 => ?_)
      · replace h := itp h c_6
        exact hb_26 σ H locs ls h hB (lv_sub hl [0] rfl)
      · replace h := itn h c_6
        refine lv_iload_n hx hb dX12_law_20 rfl (lv_at hl 2 rfl) ?_
        refine lv_bipush (v := 9) hx hb dX12_law_21 (by decide) ?_
        refine lv_icmp_le (tgt := 33) hx hb dX12_law_23 (by decide) (fun c_10 => ?_) (fun c_10 => ?_)
        · replace h := itp h c_10
          refine lv_aload_n hx hb dX12_law_33 rfl (lv_at hl 0 rfl) ?_
          refine R_get (v := .int (hI σ 40 0)) hx hb ht ui_X12 hown hK hB (by decide) (cell_8 rfl) rfl 0 (by decide) (ht _ tw916) (fun _ h9 => h9) rfl dX12_law_34 ?_
          refine lv_bipush (v := 6) hx hb dX12_law_37 (by decide) ?_
          refine lv_icmp_ne (tgt := 51) hx hb dX12_law_39 (by decide) (fun c_11 => ?_) (fun c_11 => ?_)
          · replace h := itn h c_11
            refine lv_aload_n hx hb dX12_law_51 rfl (lv_at hl 0 rfl) ?_
            refine lv_iload_n hx hb dX12_law_52 rfl (lv_at hl 1 rfl) ?_
            refine lv_iload_n hx hb dX12_law_53 rfl (lv_at hl 2 rfl) ?_
            replace h := b2_eq h; obtain ⟨r_12, s_13, hc_14, h⟩ := h
            refine R_call (rest := []) [.int r_12] (R_runV (n := 2) (As := [.int a1, .int a2]) ⟨hx, hb, hml, hown, ht⟩ (fun _ h9 => h9) hK hZ hA hB (c_X12_adds l g P σ a1 a2 H.size hc_14) (R_recv hK hB (by decide) (cell_8 rfl) rfl) tw1109 tw1106 tw1108 pw33 tw5 ⟨by decide, by decide, by decide⟩ rfl rfl ⟨Nat.le_of_ble_eq_true rfl, Nat.le_of_ble_eq_true rfl⟩ rfl hl.1 rfl (Nat.le_of_ble_eq_true rfl) dX12_law_54 ⟨Nat.zero_le _, Nat.zero_le _⟩) hB hA rfl (fun H locs hB => ?_)
            obtain ⟨rfl, rfl⟩ := Prod.mk.inj (Option.some.inj h)
            exact W.iret hx hb hr (R_end hB) hB.2.2.2.2 dX12_law_57
          · replace h := itp h c_11
            refine lv_aload_n hx hb dX12_law_42 rfl (lv_at hl 0 rfl) ?_
            refine lv_bipush (v := -7) hx hb dX12_law_43 (by decide) ?_
            replace h := b2_eq h; obtain ⟨r_15, s_16, hc_17, h⟩ := h
            refine R_call (rest := []) [.int r_15] (R_runV (n := 1) (As := [.int (-7 : Int32)]) ⟨hx, hb, hml, hown, ht⟩ (fun _ h9 => h9) hK hZ hA hB (c_X12_no l g P σ (-7 : Int32) H.size hc_17) (R_recv hK hB (by decide) (cell_8 rfl) rfl) tw1042 tw1039 tw1041 pw26 tw5 ⟨by decide, by decide, by decide⟩ rfl rfl ⟨Nat.le_of_ble_eq_true rfl, Nat.le_of_ble_eq_true rfl⟩ rfl hl.1 rfl (Nat.le_of_ble_eq_true rfl) dX12_law_45 ⟨Nat.zero_le _, Nat.zero_le _⟩) hB hA rfl (fun H locs hB => ?_)
            refine lv_goto (tgt := 57) hx hb dX12_law_48 (by decide) ?_
            obtain ⟨rfl, rfl⟩ := Prod.mk.inj (Option.some.inj h)
            exact W.iret hx hb hr (R_end hB) hB.2.2.2.2 dX12_law_57
        · replace h := itn h c_10
          exact hb_26 σ H locs ls h hB (lv_sub hl [0] rfl)
    · replace h := itn h c_5
      exact hb_10 σ H locs ls h hB (lv_sub hl [0] rfl)
def f_X12_value_b45 (σ1 : Hp) : Option (Int32 × Hp) := b2 (f_X12_no (-6 : Int32) σ1) (fun r_7 s_8 => some (r_7, s_8))
def f_X12_value (a1 : Int32) (a2 : Int32) (a3 : Int32) (σ : Hp) : Option (Int32 × Hp) := b2 (f_X12_isLaw a1 σ) (fun r_1 s_2 => if r_1 = 0 then b2 (f_X12_no (-1 : Int32) s_2) (fun r_15 s_16 => some (r_15, s_16)) else ck (inb a1 6 = true) (if (hI s_2 46 a1.toNatClampNeg) = (5 : Int32) then if a2 < 0 then f_X12_value_b45 s_2 else if (9 : Int32) < a2 then f_X12_value_b45 s_2 else if a3 < 0 then f_X12_value_b45 s_2 else if a3 ≤ (999 : Int32) then ck (inb (((10 : Int32) * a1) + a2) 60 = true) (some ((hI s_2 48 (((10 : Int32) * a1) + a2).toNatClampNeg), (sI s_2 48 (((10 : Int32) * a1) + a2).toNatClampNeg a3))) else f_X12_value_b45 s_2 else f_X12_value_b45 s_2))
set_option maxHeartbeats 4000000 in
set_option maxRecDepth 100000 in
theorem c_X12_value (l : Launch) (g : tG) (P : Nat → Nat) (σ : Hp) (a1 : Int32) (a2 : Int32) (a3 : Int32) (sz : Nat) {r : Int32} {τ : Hp} (h : f_X12_value a1 a2 a3 σ = some (r, τ)) : Met l yX12_value (Cond.code yX12_value cX12_value 5 (some .int) :: tblG) ({ frames := 1, cells := 0, slots := 0, locals := 21 }) (va_Pc [.ref (gL g 40), .int a1, .int a2, .int a3] (tPre g P σ sz)) (tQ (some (.int r)) (tPost g P τ (va_A (wC g P σ) sz)) (va_A (wC g P σ) sz)) 0 0 (va_A (wC g P σ) sz) := by
  refine T_start (B := fun A => tPost g P τ A) (by decide) (Nat.le_of_ble_eq_true rfl) ?_
  intro p e s m args below meth c ls0 A hx hb hml hr hown hlocks ht hnm hK hZ hA hB0 hl0
  have hb_45 : ∀ (σ1 : Hp) (H : Heap) (locs : List Loc) (ls : Array Slot), f_X12_value_b45 σ1 = some (r, τ) → tB g P σ1 A s.heap H locs → lv_has ls 5 [(0, .ref (gL g 40))] → WQ p l e { frames := 1, cells := 0, slots := 0, locals := 21 } s m args below meth c g P A (some (.int r)) τ H locs (F0 m 45 ls []) := by
    intro σ1 H locs ls h hB hl
    unfold f_X12_value_b45 at h
    refine lv_aload_n hx hb dX12_value_45 rfl (lv_at hl 0 rfl) ?_
    refine lv_bipush (v := -6) hx hb dX12_value_46 (by decide) ?_
    replace h := b2_eq h; obtain ⟨r_7, s_8, hc_9, h⟩ := h
    refine R_call (rest := []) [.int r_7] (R_runV (n := 1) (As := [.int (-6 : Int32)]) ⟨hx, hb, hml, hown, ht⟩ (fun _ h9 => h9) hK hZ hA hB (c_X12_no l g P σ1 (-6 : Int32) H.size hc_9) (R_recv hK hB (by decide) (cell_8 rfl) rfl) tw1042 tw1039 tw1041 pw26 tw5 ⟨by decide, by decide, by decide⟩ rfl rfl ⟨Nat.le_of_ble_eq_true rfl, Nat.le_of_ble_eq_true rfl⟩ rfl hl.1 rfl (Nat.le_of_ble_eq_true rfl) dX12_value_48 ⟨Nat.zero_le _, Nat.zero_le _⟩) hB hA rfl (fun H locs hB => ?_)
    obtain ⟨rfl, rfl⟩ := Prod.mk.inj (Option.some.inj h)
    exact W.iret hx hb hr (R_end hB) hB.2.2.2.2 dX12_value_51
  suffices hmain : ∀ (H : Heap) (locs : List Loc) (ls : Array Slot), tB g P σ A s.heap H locs → lv_has ls 5 [(0, .ref (gL g 40)), (1, .int a1), (2, .int a2), (3, .int a3)] → WQ p l e { frames := 1, cells := 0, slots := 0, locals := 21 } s m args below meth c g P A (some (.int r)) τ H locs (F0 m 0 ls []) from hmain _ _ ls0 hB0 hl0
  intro H locs ls hB hl
  unfold f_X12_value at h
  refine lv_aload_n hx hb dX12_value_0 rfl (lv_at hl 0 rfl) ?_
  refine lv_iload_n hx hb dX12_value_1 rfl (lv_at hl 1 rfl) ?_
  replace h := b2_eq h; obtain ⟨r_1, s_2, hc_3, h⟩ := h
  refine R_call (rest := []) [.int r_1] (R_runV (n := 1) (As := [.int a1]) ⟨hx, hb, hml, hown, ht⟩ (fun _ h9 => h9) hK hZ hA hB (c_X12_isLaw l g P σ a1 H.size hc_3) (R_recv hK hB (by decide) (cell_8 rfl) rfl) tw1062 tw1059 tw1061 pw27 tw5 ⟨by decide, by decide, by decide⟩ rfl rfl ⟨Nat.le_of_ble_eq_true rfl, Nat.le_of_ble_eq_true rfl⟩ rfl hl.1 rfl (Nat.le_of_ble_eq_true rfl) dX12_value_2 ⟨Nat.zero_le _, Nat.zero_le _⟩) hB hA rfl (fun H locs hB => ?_)
  refine lv_if_ne (tgt := 14) hx hb dX12_value_5 (by decide) (fun c_4 => ?_) (fun c_4 => ?_)
  · replace h := itn h c_4
    refine lv_aload_n hx hb dX12_value_14 rfl (lv_at hl 0 rfl) ?_
    refine R_get (v := .ref (gL g 46)) hx hb ht ui_X12 hown hK hB (by decide) (cell_8 rfl) rfl 6 (by decide) (ht _ tw922) (fun _ h9 => h9) rfl dX12_value_15 ?_
    refine lv_iload_n hx hb dX12_value_18 rfl (lv_at hl 1 rfl) ?_
    replace h := ck_eq h; obtain ⟨q_5, h⟩ := h
    refine R_iald hx hb hK hB rfl (inb_eq q_5) dX12_value_19 ?_
    refine lv_iconst (v := 5) hx hb dX12_value_20 (by decide) ?_
    refine lv_icmp_ne (tgt := 45) hx hb dX12_value_21 (by decide) (fun c_6 => ?_) (fun c_6 => ?_)
    · replace h := itn h c_6
      exact hb_45 s_2 H locs ls h hB (lv_sub hl [0] rfl)
    · replace h := itp h c_6
      refine lv_iload_n hx hb dX12_value_24 rfl (lv_at hl 2 rfl) ?_
      refine lv_if_lt (tgt := 45) hx hb dX12_value_25 (by decide) (fun c_10 => ?_) (fun c_10 => ?_)
      · replace h := itp h c_10
        exact hb_45 s_2 H locs ls h hB (lv_sub hl [0] rfl)
      · replace h := itn h c_10
        refine lv_iload_n hx hb dX12_value_28 rfl (lv_at hl 2 rfl) ?_
        refine lv_bipush (v := 9) hx hb dX12_value_29 (by decide) ?_
        refine lv_icmp_gt (tgt := 45) hx hb dX12_value_31 (by decide) (fun c_11 => ?_) (fun c_11 => ?_)
        · replace h := itp h c_11
          exact hb_45 s_2 H locs ls h hB (lv_sub hl [0] rfl)
        · replace h := itn h c_11
          refine lv_iload_n hx hb dX12_value_34 rfl (lv_at hl 3 rfl) ?_
          refine lv_if_lt (tgt := 45) hx hb dX12_value_35 (by decide) (fun c_12 => ?_) (fun c_12 => ?_)
          · replace h := itp h c_12
            exact hb_45 s_2 H locs ls h hB (lv_sub hl [0] rfl)
          · replace h := itn h c_12
            refine lv_iload_n hx hb dX12_value_38 rfl (lv_at hl 3 rfl) ?_
            refine lv_sipush (v := 999) hx hb dX12_value_39 (by decide) ?_
            refine lv_icmp_le (tgt := 52) hx hb dX12_value_42 (by decide) (fun c_13 => ?_) (fun c_13 => ?_)
            · replace h := itp h c_13
              refine lv_aload_n hx hb dX12_value_52 rfl (lv_at hl 0 rfl) ?_
              refine R_get (v := .ref (gL g 48)) hx hb ht ui_X12 hown hK hB (by decide) (cell_8 rfl) rfl 8 (by decide) (ht _ tw924) (fun _ h9 => h9) rfl dX12_value_53 ?_
              refine lv_bipush (v := 10) hx hb dX12_value_56 (by decide) ?_
              refine lv_iload_n hx hb dX12_value_58 rfl (lv_at hl 1 rfl) ?_
              refine lv_imul hx hb dX12_value_59 ?_
              refine lv_iload_n hx hb dX12_value_60 rfl (lv_at hl 2 rfl) ?_
              refine lv_iadd hx hb dX12_value_61 ?_
              replace h := ck_eq h; obtain ⟨q_14, h⟩ := h
              refine R_iald hx hb hK hB rfl (inb_eq q_14) dX12_value_62 ?_
              refine lv_istore (lv' := [(4, .int (hI s_2 48 (((10 : Int32) * a1) + a2).toNatClampNeg)), (0, .ref (gL g 40)), (1, .int a1), (2, .int a2), (3, .int a3)]) hx hb dX12_value_63 hl (by decide) rfl (fun ls hl => ?_)
              refine lv_aload_n hx hb dX12_value_65 rfl (lv_at hl 1 rfl) ?_
              refine R_get (v := .ref (gL g 48)) hx hb ht ui_X12 hown hK hB (by decide) (cell_8 rfl) rfl 8 (by decide) (ht _ tw924) (fun _ h9 => h9) rfl dX12_value_66 ?_
              refine lv_bipush (v := 10) hx hb dX12_value_69 (by decide) ?_
              refine lv_iload_n hx hb dX12_value_71 rfl (lv_at hl 2 rfl) ?_
              refine lv_imul hx hb dX12_value_72 ?_
              refine lv_iload_n hx hb dX12_value_73 rfl (lv_at hl 3 rfl) ?_
              refine lv_iadd hx hb dX12_value_74 ?_
              refine lv_iload_n hx hb dX12_value_75 rfl (lv_at hl 4 rfl) ?_
              refine R_iast hx hb hK hB rfl (inb_eq q_14) dX12_value_76 (fun H locs hB => ?_)
              refine lv_iload hx hb dX12_value_77 (lv_at hl 0 rfl) ?_
              obtain ⟨rfl, rfl⟩ := Prod.mk.inj (Option.some.inj h)
              exact W.iret hx hb hr (R_end hB) hB.2.2.2.2 dX12_value_79
            · replace h := itn h c_13
              exact hb_45 s_2 H locs ls h hB (lv_sub hl [0] rfl)
  · replace h := itp h c_4
    refine lv_aload_n hx hb dX12_value_8 rfl (lv_at hl 0 rfl) ?_
    refine lv_iconst (v := -1) hx hb dX12_value_9 (by decide) ?_
    replace h := b2_eq h; obtain ⟨r_15, s_16, hc_17, h⟩ := h
    refine R_call (rest := []) [.int r_15] (R_runV (n := 1) (As := [.int (-1 : Int32)]) ⟨hx, hb, hml, hown, ht⟩ (fun _ h9 => h9) hK hZ hA hB (c_X12_no l g P s_2 (-1 : Int32) H.size hc_17) (R_recv hK hB (by decide) (cell_8 rfl) rfl) tw1042 tw1039 tw1041 pw26 tw5 ⟨by decide, by decide, by decide⟩ rfl rfl ⟨Nat.le_of_ble_eq_true rfl, Nat.le_of_ble_eq_true rfl⟩ rfl hl.1 rfl (Nat.le_of_ble_eq_true rfl) dX12_value_10 ⟨Nat.zero_le _, Nat.zero_le _⟩) hB hA rfl (fun H locs hB => ?_)
    obtain ⟨rfl, rfl⟩ := Prod.mk.inj (Option.some.inj h)
    exact W.iret hx hb hr (R_end hB) hB.2.2.2.2 dX12_value_13
def f_X12_lawOf_b51 (σ1 : Hp) : Option (Int32 × Hp) := b2 (f_X12_no (-5 : Int32) σ1) (fun r_7 s_8 => some (r_7, s_8))
def f_X12_lawOf_b42 (x1 : Int32) (x2 : Int32) (σ1 : Hp) : Option (Int32 × Hp) := if x2 < 0 then f_X12_lawOf_b51 σ1 else if x2 ≤ (1 : Int32) then if x2 = 0 then ck (inb x1 6 = true) (some ((hI σ1 46 x1.toNatClampNeg), σ1)) else ck (inb x1 6 = true) (some ((hI σ1 47 x1.toNatClampNeg), σ1)) else f_X12_lawOf_b51 σ1
def f_X12_lawOf (a1 : Int32) (a2 : Int32) (σ : Hp) : Option (Int32 × Hp) := b2 (f_X12_isLaw a1 σ) (fun r_1 s_2 => if r_1 = 0 then b2 (f_X12_no (-5 : Int32) s_2) (fun r_16 s_17 => some (r_16, s_17)) else if a2 < (10 : Int32) then f_X12_lawOf_b42 a1 a2 s_2 else if (19 : Int32) < a2 then f_X12_lawOf_b42 a1 a2 s_2 else ck (inb ((((10 : Int32) * a1) + a2) - (10 : Int32)) 60 = true) (some ((hI s_2 48 ((((10 : Int32) * a1) + a2) - (10 : Int32)).toNatClampNeg), s_2)))
set_option maxHeartbeats 4000000 in
set_option maxRecDepth 100000 in
theorem c_X12_lawOf (l : Launch) (g : tG) (P : Nat → Nat) (σ : Hp) (a1 : Int32) (a2 : Int32) (sz : Nat) {r : Int32} {τ : Hp} (h : f_X12_lawOf a1 a2 σ = some (r, τ)) : Met l yX12_lawOf (Cond.code yX12_lawOf cX12_lawOf 3 (some .int) :: tblG) ({ frames := 1, cells := 0, slots := 0, locals := 21 }) (va_Pc [.ref (gL g 40), .int a1, .int a2] (tPre g P σ sz)) (tQ (some (.int r)) (tPost g P τ (va_A (wC g P σ) sz)) (va_A (wC g P σ) sz)) 0 0 (va_A (wC g P σ) sz) := by
  refine T_start (B := fun A => tPost g P τ A) (by decide) (Nat.le_of_ble_eq_true rfl) ?_
  intro p e s m args below meth c ls0 A hx hb hml hr hown hlocks ht hnm hK hZ hA hB0 hl0
  have hb_51 : ∀ (σ1 : Hp) (H : Heap) (locs : List Loc) (ls : Array Slot), f_X12_lawOf_b51 σ1 = some (r, τ) → tB g P σ1 A s.heap H locs → lv_has ls 3 [(0, .ref (gL g 40))] → WQ p l e { frames := 1, cells := 0, slots := 0, locals := 21 } s m args below meth c g P A (some (.int r)) τ H locs (F0 m 51 ls []) := by
    intro σ1 H locs ls h hB hl
    unfold f_X12_lawOf_b51 at h
    refine lv_aload_n hx hb dX12_lawOf_51 rfl (lv_at hl 0 rfl) ?_
    refine lv_bipush (v := -5) hx hb dX12_lawOf_52 (by decide) ?_
    replace h := b2_eq h; obtain ⟨r_7, s_8, hc_9, h⟩ := h
    refine R_call (rest := []) [.int r_7] (R_runV (n := 1) (As := [.int (-5 : Int32)]) ⟨hx, hb, hml, hown, ht⟩ (fun _ h9 => h9) hK hZ hA hB (c_X12_no l g P σ1 (-5 : Int32) H.size hc_9) (R_recv hK hB (by decide) (cell_8 rfl) rfl) tw1042 tw1039 tw1041 pw26 tw5 ⟨by decide, by decide, by decide⟩ rfl rfl ⟨Nat.le_of_ble_eq_true rfl, Nat.le_of_ble_eq_true rfl⟩ rfl hl.1 rfl (Nat.le_of_ble_eq_true rfl) dX12_lawOf_54 ⟨Nat.zero_le _, Nat.zero_le _⟩) hB hA rfl (fun H locs hB => ?_)
    obtain ⟨rfl, rfl⟩ := Prod.mk.inj (Option.some.inj h)
    exact W.iret hx hb hr (R_end hB) hB.2.2.2.2 dX12_lawOf_57
  have hb_42 : ∀ (x1 : Int32) (x2 : Int32) (σ1 : Hp) (H : Heap) (locs : List Loc) (ls : Array Slot), f_X12_lawOf_b42 x1 x2 σ1 = some (r, τ) → tB g P σ1 A s.heap H locs → lv_has ls 3 [(0, .ref (gL g 40)), (1, .int x1), (2, .int x2)] → WQ p l e { frames := 1, cells := 0, slots := 0, locals := 21 } s m args below meth c g P A (some (.int r)) τ H locs (F0 m 42 ls []) := by
    intro x1 x2 σ1 H locs ls h hB hl
    unfold f_X12_lawOf_b42 at h
    refine lv_iload_n hx hb dX12_lawOf_42 rfl (lv_at hl 2 rfl) ?_
    refine lv_if_lt (tgt := 51) hx hb dX12_lawOf_43 (by decide) (fun c_6 => ?_) (fun c_6 => ?_)
    · replace h := itp h c_6
      exact hb_51 σ1 H locs ls h hB (lv_sub hl [0] rfl)
    · replace h := itn h c_6
      refine lv_iload_n hx hb dX12_lawOf_46 rfl (lv_at hl 2 rfl) ?_
      refine lv_iconst (v := 1) hx hb dX12_lawOf_47 (by decide) ?_
      refine lv_icmp_le (tgt := 58) hx hb dX12_lawOf_48 (by decide) (fun c_10 => ?_) (fun c_10 => ?_)
      · replace h := itp h c_10
        refine lv_iload_n hx hb dX12_lawOf_58 rfl (lv_at hl 2 rfl) ?_
        refine lv_if_ne (tgt := 71) hx hb dX12_lawOf_59 (by decide) (fun c_11 => ?_) (fun c_11 => ?_)
        · replace h := itn h c_11
          refine lv_aload_n hx hb dX12_lawOf_71 rfl (lv_at hl 0 rfl) ?_
          refine R_get (v := .ref (gL g 47)) hx hb ht ui_X12 hown hK hB (by decide) (cell_8 rfl) rfl 7 (by decide) (ht _ tw923) (fun _ h9 => h9) rfl dX12_lawOf_72 ?_
          refine lv_iload_n hx hb dX12_lawOf_75 rfl (lv_at hl 1 rfl) ?_
          replace h := ck_eq h; obtain ⟨q_12, h⟩ := h
          refine R_iald hx hb hK hB rfl (inb_eq q_12) dX12_lawOf_76 ?_
          obtain ⟨rfl, rfl⟩ := Prod.mk.inj (Option.some.inj h)
          exact W.iret hx hb hr (R_end hB) hB.2.2.2.2 dX12_lawOf_77
        · replace h := itp h c_11
          refine lv_aload_n hx hb dX12_lawOf_62 rfl (lv_at hl 0 rfl) ?_
          refine R_get (v := .ref (gL g 46)) hx hb ht ui_X12 hown hK hB (by decide) (cell_8 rfl) rfl 6 (by decide) (ht _ tw922) (fun _ h9 => h9) rfl dX12_lawOf_63 ?_
          refine lv_iload_n hx hb dX12_lawOf_66 rfl (lv_at hl 1 rfl) ?_
          replace h := ck_eq h; obtain ⟨q_13, h⟩ := h
          refine R_iald hx hb hK hB rfl (inb_eq q_13) dX12_lawOf_67 ?_
          refine lv_goto (tgt := 77) hx hb dX12_lawOf_68 (by decide) ?_
          obtain ⟨rfl, rfl⟩ := Prod.mk.inj (Option.some.inj h)
          exact W.iret hx hb hr (R_end hB) hB.2.2.2.2 dX12_lawOf_77
      · replace h := itn h c_10
        exact hb_51 σ1 H locs ls h hB (lv_sub hl [0] rfl)
  suffices hmain : ∀ (H : Heap) (locs : List Loc) (ls : Array Slot), tB g P σ A s.heap H locs → lv_has ls 3 [(0, .ref (gL g 40)), (1, .int a1), (2, .int a2)] → WQ p l e { frames := 1, cells := 0, slots := 0, locals := 21 } s m args below meth c g P A (some (.int r)) τ H locs (F0 m 0 ls []) from hmain _ _ ls0 hB0 hl0
  intro H locs ls hB hl
  unfold f_X12_lawOf at h
  refine lv_aload_n hx hb dX12_lawOf_0 rfl (lv_at hl 0 rfl) ?_
  refine lv_iload_n hx hb dX12_lawOf_1 rfl (lv_at hl 1 rfl) ?_
  replace h := b2_eq h; obtain ⟨r_1, s_2, hc_3, h⟩ := h
  refine R_call (rest := []) [.int r_1] (R_runV (n := 1) (As := [.int a1]) ⟨hx, hb, hml, hown, ht⟩ (fun _ h9 => h9) hK hZ hA hB (c_X12_isLaw l g P σ a1 H.size hc_3) (R_recv hK hB (by decide) (cell_8 rfl) rfl) tw1062 tw1059 tw1061 pw27 tw5 ⟨by decide, by decide, by decide⟩ rfl rfl ⟨Nat.le_of_ble_eq_true rfl, Nat.le_of_ble_eq_true rfl⟩ rfl hl.1 rfl (Nat.le_of_ble_eq_true rfl) dX12_lawOf_2 ⟨Nat.zero_le _, Nat.zero_le _⟩) hB hA rfl (fun H locs hB => ?_)
  refine lv_if_ne (tgt := 15) hx hb dX12_lawOf_5 (by decide) (fun c_4 => ?_) (fun c_4 => ?_)
  · replace h := itn h c_4
    refine lv_iload_n hx hb dX12_lawOf_15 rfl (lv_at hl 2 rfl) ?_
    refine lv_bipush (v := 10) hx hb dX12_lawOf_16 (by decide) ?_
    refine lv_icmp_lt (tgt := 42) hx hb dX12_lawOf_18 (by decide) (fun c_5 => ?_) (fun c_5 => ?_)
    · replace h := itp h c_5
      exact hb_42 a1 a2 s_2 H locs ls h hB (lv_sub hl [0, 1, 2] rfl)
    · replace h := itn h c_5
      refine lv_iload_n hx hb dX12_lawOf_21 rfl (lv_at hl 2 rfl) ?_
      refine lv_bipush (v := 19) hx hb dX12_lawOf_22 (by decide) ?_
      refine lv_icmp_gt (tgt := 42) hx hb dX12_lawOf_24 (by decide) (fun c_14 => ?_) (fun c_14 => ?_)
      · replace h := itp h c_14
        exact hb_42 a1 a2 s_2 H locs ls h hB (lv_sub hl [0, 1, 2] rfl)
      · replace h := itn h c_14
        refine lv_aload_n hx hb dX12_lawOf_27 rfl (lv_at hl 0 rfl) ?_
        refine R_get (v := .ref (gL g 48)) hx hb ht ui_X12 hown hK hB (by decide) (cell_8 rfl) rfl 8 (by decide) (ht _ tw924) (fun _ h9 => h9) rfl dX12_lawOf_28 ?_
        refine lv_bipush (v := 10) hx hb dX12_lawOf_31 (by decide) ?_
        refine lv_iload_n hx hb dX12_lawOf_33 rfl (lv_at hl 1 rfl) ?_
        refine lv_imul hx hb dX12_lawOf_34 ?_
        refine lv_iload_n hx hb dX12_lawOf_35 rfl (lv_at hl 2 rfl) ?_
        refine lv_iadd hx hb dX12_lawOf_36 ?_
        refine lv_bipush (v := 10) hx hb dX12_lawOf_37 (by decide) ?_
        refine lv_isub hx hb dX12_lawOf_39 ?_
        replace h := ck_eq h; obtain ⟨q_15, h⟩ := h
        refine R_iald hx hb hK hB rfl (inb_eq q_15) dX12_lawOf_40 ?_
        obtain ⟨rfl, rfl⟩ := Prod.mk.inj (Option.some.inj h)
        exact W.iret hx hb hr (R_end hB) hB.2.2.2.2 dX12_lawOf_41
  · replace h := itp h c_4
    refine lv_aload_n hx hb dX12_lawOf_8 rfl (lv_at hl 0 rfl) ?_
    refine lv_bipush (v := -5) hx hb dX12_lawOf_9 (by decide) ?_
    replace h := b2_eq h; obtain ⟨r_16, s_17, hc_18, h⟩ := h
    refine R_call (rest := []) [.int r_16] (R_runV (n := 1) (As := [.int (-5 : Int32)]) ⟨hx, hb, hml, hown, ht⟩ (fun _ h9 => h9) hK hZ hA hB (c_X12_no l g P s_2 (-5 : Int32) H.size hc_18) (R_recv hK hB (by decide) (cell_8 rfl) rfl) tw1042 tw1039 tw1041 pw26 tw5 ⟨by decide, by decide, by decide⟩ rfl rfl ⟨Nat.le_of_ble_eq_true rfl, Nat.le_of_ble_eq_true rfl⟩ rfl hl.1 rfl (Nat.le_of_ble_eq_true rfl) dX12_lawOf_11 ⟨Nat.zero_le _, Nat.zero_le _⟩) hB hA rfl (fun H locs hB => ?_)
    obtain ⟨rfl, rfl⟩ := Prod.mk.inj (Option.some.inj h)
    exact W.iret hx hb hr (R_end hB) hB.2.2.2.2 dX12_lawOf_14
def f_X12_wrong (a1 : Int32) (σ : Hp) : Option (Int32 × Hp) := some ((0 : Int32), (sI σ 40 22 a1))
set_option maxHeartbeats 4000000 in
set_option maxRecDepth 100000 in
theorem c_X12_wrong (l : Launch) (g : tG) (P : Nat → Nat) (σ : Hp) (a1 : Int32) (sz : Nat) {r : Int32} {τ : Hp} (h : f_X12_wrong a1 σ = some (r, τ)) : Met l yX12_wrong (Cond.code yX12_wrong cX12_wrong 2 (some .boolean) :: tblG) ({ frames := 0, cells := 0, slots := 0, locals := 0 }) (va_Pc [.ref (gL g 40), .int a1] (tPre g P σ sz)) (tQ (some (.int r)) (tPost g P τ (va_A (wC g P σ) sz)) (va_A (wC g P σ) sz)) 0 0 (va_A (wC g P σ) sz) := by
  refine T_start (B := fun A => tPost g P τ A) (by decide) (Nat.le_of_ble_eq_true rfl) ?_
  intro p e s m args below meth c ls0 A hx hb hml hr hown hlocks ht hnm hK hZ hA hB0 hl0
  suffices hmain : ∀ (H : Heap) (locs : List Loc) (ls : Array Slot), tB g P σ A s.heap H locs → lv_has ls 2 [(0, .ref (gL g 40)), (1, .int a1)] → WQ p l e { frames := 0, cells := 0, slots := 0, locals := 0 } s m args below meth c g P A (some (.int r)) τ H locs (F0 m 0 ls []) from hmain _ _ ls0 hB0 hl0
  intro H locs ls hB hl
  unfold f_X12_wrong at h
  refine lv_aload_n hx hb dX12_wrong_0 rfl (lv_at hl 0 rfl) ?_
  refine lv_iload_n hx hb dX12_wrong_1 rfl (lv_at hl 1 rfl) ?_
  refine R_putI (v := a1) (ty := .int) hx hb ht ui_X12 tyX12 tyX12_ok nmX12 hown hK hB (by decide) (cell_8 rfl) rfl 22 (by decide) (ht _ tw938) (fun _ h9 => h9) rfl (by decide +kernel) rfl rfl (Nat.le_of_ble_eq_true rfl) (st8_22 rfl) dX12_wrong_2 (fun H locs hB => ?_)
  refine lv_iconst (v := 0) hx hb dX12_wrong_5 (by decide) ?_
  obtain ⟨rfl, rfl⟩ := Prod.mk.inj (Option.some.inj h)
  exact W.zret hx hb hr rfl (R_end hB) hB.2.2.2.2 dX12_wrong_6
def f_X12_isWordAt_b86 (x2 : Int32) (σ1 : Hp) : Option (Int32 × Hp) := ck (inb x2 29 = true) (if (32 : Int32) < (hI σ1 56 x2.toNatClampNeg) then some ((0 : Int32), σ1) else some ((1 : Int32), σ1))
def f_X12_isWordAt_t37 (x2 : Int32) (x3 : Int32) (σ1 : Hp) : Option ((Int32 × Int32 × Hp) ⊕ (Int32 × Hp)) := ck (inb x2 29 = true) (if (hI σ1 56 x2.toNatClampNeg) ≤ (32 : Int32) then ex (f_X12_isWordAt_b86 x2 σ1) else if (hI σ1 40 20) ≤ x3 then ex (f_X12_isWordAt_b86 x2 σ1) else ck (inb ((hI σ1 40 18) + x3) 1280 = true) (if ((hJ σ1 54 ((hI σ1 40 18) + x3).toNatClampNeg).toInt32) = (hI σ1 56 x2.toNatClampNeg) then some (.inl ((x2 + 1), (x3 + 1), σ1)) else ex (f_X12_isWordAt_b86 x2 σ1)))
def f_X12_isWordAt_s37 (v : (Int32 × Int32 × Hp)) : Option ((Int32 × Int32 × Hp) ⊕ (Int32 × Hp)) := f_X12_isWordAt_t37 v.1 v.2.1 v.2.2
def f_X12_isWordAt_b24 (x1 : Int32) (x2 : Int32) (xt0 : Int32) (xt1 : Int32) (σ1 : Hp) : Option ((Int32 × Int32 × Hp) ⊕ (Int32 × Hp)) := some (.inl ((x2 + 1), (xt1 + xt0), σ1))
def f_X12_isWordAt_t4 (x1 : Int32) (x2 : Int32) (x3 : Int32) (σ1 : Hp) : Option ((Int32 × Int32 × Hp) ⊕ (Int32 × Hp)) := if x1 ≤ x3 then ex (iter (f_X12_isWordAt_s37) fuel (x2, (hI σ1 40 19), σ1)) else ck (inb x2 29 = true) (if (hI σ1 56 x2.toNatClampNeg) = 0 then f_X12_isWordAt_b24 x1 x2 (1 : Int32) x3 σ1 else f_X12_isWordAt_b24 x1 x2 (0 : Int32) x3 σ1)
def f_X12_isWordAt_s4 (x1 : Int32) (v : (Int32 × Int32 × Hp)) : Option ((Int32 × Int32 × Hp) ⊕ (Int32 × Hp)) := f_X12_isWordAt_t4 x1 v.1 v.2.1 v.2.2
def f_X12_isWordAt (a1 : Int32) (σ : Hp) : Option (Int32 × Hp) := iter (f_X12_isWordAt_s4 a1) fuel ((0 : Int32), (0 : Int32), σ)
set_option maxHeartbeats 4000000 in
set_option maxRecDepth 100000 in
theorem c_X12_isWordAt (l : Launch) (g : tG) (P : Nat → Nat) (σ : Hp) (a1 : Int32) (sz : Nat) {r : Int32} {τ : Hp} (h : f_X12_isWordAt a1 σ = some (r, τ)) : Met l yX12_isWordAt (Cond.code yX12_isWordAt cX12_isWordAt 4 (some .boolean) :: tblG) ({ frames := 0, cells := 0, slots := 0, locals := 0 }) (va_Pc [.ref (gL g 40), .int a1] (tPre g P σ sz)) (tQ (some (.int r)) (tPost g P τ (va_A (wC g P σ) sz)) (va_A (wC g P σ) sz)) 0 0 (va_A (wC g P σ) sz) := by
  refine T_start (B := fun A => tPost g P τ A) (by decide) (Nat.le_of_ble_eq_true rfl) ?_
  intro p e s m args below meth c ls0 A hx hb hml hr hown hlocks ht hnm hK hZ hA hB0 hl0
  have hb_86 : ∀ (x2 : Int32) (σ1 : Hp) (H : Heap) (locs : List Loc) (ls : Array Slot), f_X12_isWordAt_b86 x2 σ1 = some (r, τ) → tB g P σ1 A s.heap H locs → lv_has ls 4 [(0, .ref (gL g 40)), (2, .int x2)] → WQ p l e { frames := 0, cells := 0, slots := 0, locals := 0 } s m args below meth c g P A (some (.int r)) τ H locs (F0 m 86 ls []) := by
    intro x2 σ1 H locs ls h hB hl
    unfold f_X12_isWordAt_b86 at h
    refine lv_aload_n hx hb dX12_isWordAt_86 rfl (lv_at hl 0 rfl) ?_
    refine R_get (v := .ref (gL g 56)) hx hb ht ui_X12 hown hK hB (by decide) (cell_8 rfl) rfl 16 (by decide) (ht _ tw932) (fun _ h9 => h9) rfl dX12_isWordAt_87 ?_
    refine lv_iload_n hx hb dX12_isWordAt_90 rfl (lv_at hl 1 rfl) ?_
    replace h := ck_eq h; obtain ⟨q_4, h⟩ := h
    refine R_iald hx hb hK hB rfl (inb_eq q_4) dX12_isWordAt_91 ?_
    refine lv_bipush (v := 32) hx hb dX12_isWordAt_92 (by decide) ?_
    refine lv_icmp_gt (tgt := 101) hx hb dX12_isWordAt_94 (by decide) (fun c_5 => ?_) (fun c_5 => ?_)
    · replace h := itp h c_5
      refine lv_iconst (v := 0) hx hb dX12_isWordAt_101 (by decide) ?_
      obtain ⟨rfl, rfl⟩ := Prod.mk.inj (Option.some.inj h)
      exact W.zret hx hb hr rfl (R_end hB) hB.2.2.2.2 dX12_isWordAt_102
    · replace h := itn h c_5
      refine lv_iconst (v := 1) hx hb dX12_isWordAt_97 (by decide) ?_
      refine lv_goto (tgt := 102) hx hb dX12_isWordAt_98 (by decide) ?_
      obtain ⟨rfl, rfl⟩ := Prod.mk.inj (Option.some.inj h)
      exact W.zret hx hb hr rfl (R_end hB) hB.2.2.2.2 dX12_isWordAt_102
  have hL_37 : ∀ (n : Nat) (x2 : Int32) (x3 : Int32) (σ1 : Hp) (H : Heap) (locs : List Loc) (ls : Array Slot), iter (f_X12_isWordAt_s37) n (x2, x3, σ1) = some (r, τ) → tB g P σ1 A s.heap H locs → lv_has ls 4 [(0, .ref (gL g 40)), (2, .int x2), (3, .int x3)] → WQ p l e { frames := 0, cells := 0, slots := 0, locals := 0 } s m args below meth c g P A (some (.int r)) τ H locs (F0 m 37 ls []) := by
    intro n
    induction n with
    | zero =>
      intro x2 x3 σ1 H locs ls h hB hl
      exact (iter_0 h).elim
    | succ n ih1 =>
      intro x2 x3 σ1 H locs ls h hB hl
      replace h := iter_eq h; obtain ⟨z1, hh1, hx1⟩ := h
      have h : f_X12_isWordAt_t37 x2 x3 σ1 = some z1 := hh1
      clear hh1
      unfold f_X12_isWordAt_t37 at h
      refine lv_aload_n hx hb dX12_isWordAt_37 rfl (lv_at hl 0 rfl) ?_
      refine R_get (v := .ref (gL g 56)) hx hb ht ui_X12 hown hK hB (by decide) (cell_8 rfl) rfl 16 (by decide) (ht _ tw932) (fun _ h9 => h9) rfl dX12_isWordAt_38 ?_
      refine lv_iload_n hx hb dX12_isWordAt_41 rfl (lv_at hl 1 rfl) ?_
      replace h := ck_eq h; obtain ⟨q_2, h⟩ := h
      refine R_iald hx hb hK hB rfl (inb_eq q_2) dX12_isWordAt_42 ?_
      refine lv_bipush (v := 32) hx hb dX12_isWordAt_43 (by decide) ?_
      refine lv_icmp_le (tgt := 86) hx hb dX12_isWordAt_45 (by decide) (fun c_3 => ?_) (fun c_3 => ?_)
      · replace h := itp h c_3
        replace h := ex_eq h; obtain ⟨b1, h, hz1⟩ := h
        subst hz1
        have hz1 := (itk_inr hx1).symm
        subst hz1
        exact hb_86 x2 σ1 H locs ls h hB (lv_sub hl [0, 1] rfl)
      · replace h := itn h c_3
        refine lv_iload_n hx hb dX12_isWordAt_48 rfl (lv_at hl 2 rfl) ?_
        refine lv_aload_n hx hb dX12_isWordAt_49 rfl (lv_at hl 0 rfl) ?_
        refine R_get (v := .int (hI σ1 40 20)) hx hb ht ui_X12 hown hK hB (by decide) (cell_8 rfl) rfl 20 (by decide) (ht _ tw936) (fun _ h9 => h9) rfl dX12_isWordAt_50 ?_
        refine lv_icmp_ge (tgt := 86) hx hb dX12_isWordAt_53 (by decide) (fun c_6 => ?_) (fun c_6 => ?_)
        · replace h := itp h c_6
          replace h := ex_eq h; obtain ⟨b1, h, hz1⟩ := h
          subst hz1
          have hz1 := (itk_inr hx1).symm
          subst hz1
          exact hb_86 x2 σ1 H locs ls h hB (lv_sub hl [0, 1] rfl)
        · replace h := itn h c_6
          refine lv_aload_n hx hb dX12_isWordAt_56 rfl (lv_at hl 0 rfl) ?_
          refine R_get (v := .ref (gL g 54)) hx hb ht ui_X12 hown hK hB (by decide) (cell_8 rfl) rfl 14 (by decide) (ht _ tw930) (fun _ h9 => h9) rfl dX12_isWordAt_57 ?_
          refine lv_aload_n hx hb dX12_isWordAt_60 rfl (lv_at hl 0 rfl) ?_
          refine R_get (v := .int (hI σ1 40 18)) hx hb ht ui_X12 hown hK hB (by decide) (cell_8 rfl) rfl 18 (by decide) (ht _ tw934) (fun _ h9 => h9) rfl dX12_isWordAt_61 ?_
          refine lv_iload_n hx hb dX12_isWordAt_64 rfl (lv_at hl 2 rfl) ?_
          refine lv_iadd hx hb dX12_isWordAt_65 ?_
          replace h := ck_eq h; obtain ⟨q_7, h⟩ := h
          refine R_lald hx hb hK hB rfl (inb_eq q_7) dX12_isWordAt_66 ?_
          refine lv_l2i (v := (hJ σ1 54 ((hI σ1 40 18) + x3).toNatClampNeg).toInt32) hx hb dX12_isWordAt_67 rfl ?_
          refine lv_aload_n hx hb dX12_isWordAt_68 rfl (lv_at hl 0 rfl) ?_
          refine R_get (v := .ref (gL g 56)) hx hb ht ui_X12 hown hK hB (by decide) (cell_8 rfl) rfl 16 (by decide) (ht _ tw932) (fun _ h9 => h9) rfl dX12_isWordAt_69 ?_
          refine lv_iload_n hx hb dX12_isWordAt_72 rfl (lv_at hl 1 rfl) ?_
          refine R_iald hx hb hK hB rfl (inb_eq q_2) dX12_isWordAt_73 ?_
          refine lv_icmp_ne (tgt := 86) hx hb dX12_isWordAt_74 (by decide) (fun c_8 => ?_) (fun c_8 => ?_)
          · replace h := itn h c_8
            replace h := ex_eq h; obtain ⟨b1, h, hz1⟩ := h
            subst hz1
            have hz1 := (itk_inr hx1).symm
            subst hz1
            exact hb_86 x2 σ1 H locs ls h hB (lv_sub hl [0, 1] rfl)
          · replace h := itp h c_8
            refine lv_iinc (v := x3 + 1) (lv' := [(3, .int (x3 + 1)), (0, .ref (gL g 40)), (2, .int x2)]) hx hb dX12_isWordAt_77 hl (k := 2) rfl rfl (by decide) rfl (fun ls hl => ?_)
            refine lv_iinc (v := x2 + 1) (lv' := [(2, .int (x2 + 1)), (3, .int (x3 + 1)), (0, .ref (gL g 40))]) hx hb dX12_isWordAt_80 hl (k := 2) rfl rfl (by decide) rfl (fun ls hl => ?_)
            refine lv_goto (tgt := 37) hx hb dX12_isWordAt_83 (by decide) ?_
            obtain rfl := Option.some.inj h
            exact ih1 (x2 + 1) (x3 + 1) σ1 H locs ls hx1 hB (lv_sub hl [2, 0, 1] rfl)
  have hL_4 : ∀ (x1 : Int32) (n : Nat) (x2 : Int32) (x3 : Int32) (σ1 : Hp) (H : Heap) (locs : List Loc) (ls : Array Slot), iter (f_X12_isWordAt_s4 x1) n (x2, x3, σ1) = some (r, τ) → tB g P σ1 A s.heap H locs → lv_has ls 4 [(0, .ref (gL g 40)), (1, .int x1), (2, .int x2), (3, .int x3)] → WQ p l e { frames := 0, cells := 0, slots := 0, locals := 0 } s m args below meth c g P A (some (.int r)) τ H locs (F0 m 4 ls []) := by
    intro x1 n
    induction n with
    | zero =>
      intro x2 x3 σ1 H locs ls h hB hl
      exact (iter_0 h).elim
    | succ n ih1 =>
      intro x2 x3 σ1 H locs ls h hB hl
      replace h := iter_eq h; obtain ⟨z1, hh1, hx1⟩ := h
      have hb_24 : ∀ (x2 : Int32) (xt0 : Int32) (xt1 : Int32) (σ1 : Hp) (H : Heap) (locs : List Loc) (ls : Array Slot), f_X12_isWordAt_b24 x1 x2 xt0 xt1 σ1 = some z1 → tB g P σ1 A s.heap H locs → lv_has ls 4 [(0, .ref (gL g 40)), (1, .int x1), (2, .int x2)] → WQ p l e { frames := 0, cells := 0, slots := 0, locals := 0 } s m args below meth c g P A (some (.int r)) τ H locs (F0 m 24 ls [.int xt0, .int xt1]) := by
        intro x2 xt0 xt1 σ1 H locs ls h hB hl
        unfold f_X12_isWordAt_b24 at h
        refine lv_iadd hx hb dX12_isWordAt_24 ?_
        refine lv_istore_n (lv' := [(3, .int (xt1 + xt0)), (0, .ref (gL g 40)), (1, .int x1), (2, .int x2)]) hx hb dX12_isWordAt_25 rfl hl (by decide) rfl (fun ls hl => ?_)
        refine lv_iinc (v := x2 + 1) (lv' := [(2, .int (x2 + 1)), (3, .int (xt1 + xt0)), (0, .ref (gL g 40)), (1, .int x1)]) hx hb dX12_isWordAt_26 hl (k := 3) rfl rfl (by decide) rfl (fun ls hl => ?_)
        refine lv_goto (tgt := 4) hx hb dX12_isWordAt_29 (by decide) ?_
        obtain rfl := Option.some.inj h
        exact ih1 (x2 + 1) (xt1 + xt0) σ1 H locs ls hx1 hB (lv_sub hl [2, 3, 0, 1] rfl)
      have h : f_X12_isWordAt_t4 x1 x2 x3 σ1 = some z1 := hh1
      clear hh1
      unfold f_X12_isWordAt_t4 at h
      refine lv_iload_n hx hb dX12_isWordAt_4 rfl (lv_at hl 3 rfl) ?_
      refine lv_iload_n hx hb dX12_isWordAt_5 rfl (lv_at hl 1 rfl) ?_
      refine lv_icmp_ge (tgt := 32) hx hb dX12_isWordAt_6 (by decide) (fun c_1 => ?_) (fun c_1 => ?_)
      · replace h := itp h c_1
        replace h := ex_eq h; obtain ⟨b1, h, hz1⟩ := h
        subst hz1
        have hz1 := (itk_inr hx1).symm
        subst hz1
        refine lv_aload_n hx hb dX12_isWordAt_32 rfl (lv_at hl 0 rfl) ?_
        refine R_get (v := .int (hI σ1 40 19)) hx hb ht ui_X12 hown hK hB (by decide) (cell_8 rfl) rfl 19 (by decide) (ht _ tw935) (fun _ h9 => h9) rfl dX12_isWordAt_33 ?_
        refine lv_istore_n (lv' := [(3, .int (hI σ1 40 19)), (0, .ref (gL g 40)), (1, .int x1), (2, .int x2)]) hx hb dX12_isWordAt_36 rfl hl (by decide) rfl (fun ls hl => ?_)
        exact hL_37 fuel x2 (hI σ1 40 19) σ1 H locs ls h hB (lv_sub hl [1, 3, 0] rfl)
      · replace h := itn h c_1
        refine lv_iload_n hx hb dX12_isWordAt_9 rfl (lv_at hl 3 rfl) ?_
        refine lv_aload_n hx hb dX12_isWordAt_10 rfl (lv_at hl 0 rfl) ?_
        refine R_get (v := .ref (gL g 56)) hx hb ht ui_X12 hown hK hB (by decide) (cell_8 rfl) rfl 16 (by decide) (ht _ tw932) (fun _ h9 => h9) rfl dX12_isWordAt_11 ?_
        refine lv_iload_n hx hb dX12_isWordAt_14 rfl (lv_at hl 2 rfl) ?_
        replace h := ck_eq h; obtain ⟨q_9, h⟩ := h
        refine R_iald hx hb hK hB rfl (inb_eq q_9) dX12_isWordAt_15 ?_
        refine lv_if_ne (tgt := 23) hx hb dX12_isWordAt_16 (by decide) (fun c_10 => ?_) (fun c_10 => ?_)
        · replace h := itn h c_10
          refine lv_iconst (v := 0) hx hb dX12_isWordAt_23 (by decide) ?_
          exact hb_24 x2 (0 : Int32) x3 σ1 H locs ls h hB (lv_sub hl [0, 1, 2] rfl)
        · replace h := itp h c_10
          refine lv_iconst (v := 1) hx hb dX12_isWordAt_19 (by decide) ?_
          refine lv_goto (tgt := 24) hx hb dX12_isWordAt_20 (by decide) ?_
          exact hb_24 x2 (1 : Int32) x3 σ1 H locs ls h hB (lv_sub hl [0, 1, 2] rfl)
  suffices hmain : ∀ (H : Heap) (locs : List Loc) (ls : Array Slot), tB g P σ A s.heap H locs → lv_has ls 4 [(0, .ref (gL g 40)), (1, .int a1)] → WQ p l e { frames := 0, cells := 0, slots := 0, locals := 0 } s m args below meth c g P A (some (.int r)) τ H locs (F0 m 0 ls []) from hmain _ _ ls0 hB0 hl0
  intro H locs ls hB hl
  unfold f_X12_isWordAt at h
  refine lv_iconst (v := 0) hx hb dX12_isWordAt_0 (by decide) ?_
  refine lv_istore_n (lv' := [(2, .int (0 : Int32)), (0, .ref (gL g 40)), (1, .int a1)]) hx hb dX12_isWordAt_1 rfl hl (by decide) rfl (fun ls hl => ?_)
  refine lv_iconst (v := 0) hx hb dX12_isWordAt_2 (by decide) ?_
  refine lv_istore_n (lv' := [(3, .int (0 : Int32)), (2, .int (0 : Int32)), (0, .ref (gL g 40)), (1, .int a1)]) hx hb dX12_isWordAt_3 rfl hl (by decide) rfl (fun ls hl => ?_)
  exact hL_4 a1 fuel (0 : Int32) (0 : Int32) σ H locs ls h hB (lv_sub hl [2, 3, 1, 0] rfl)
def f_X12_word_t105 (x2 : Int32) (x3 : Int32) (x1 : Int32) (σ1 : Hp) : Option ((Int32 × Hp) ⊕ ((Int32 × Int32 × Int32 × Hp) ⊕ (Int32 × Hp))) := ck (inb x1 29 = true) (if (hI σ1 56 x1.toNatClampNeg) = 0 then ex (some (.inl ((x1 + 1), x2, (x3 + 1), σ1))) else some (.inl ((x1 + 1), σ1)))
def f_X12_word_s105 (x2 : Int32) (x3 : Int32) (v : (Int32 × Hp)) : Option ((Int32 × Hp) ⊕ ((Int32 × Int32 × Int32 × Hp) ⊕ (Int32 × Hp))) := f_X12_word_t105 x2 x3 v.1 v.2
def f_X12_word_b104 (x1 : Int32) (x3 : Int32) (xt0 : Int32) (σ1 : Hp) : Option ((Int32 × Int32 × Int32 × Hp) ⊕ (Int32 × Hp)) := iter (f_X12_word_s105 xt0 x3) fuel (x1, σ1)
def f_X12_word_b74 (x1 : Int32) (x2 : Int32) (x3 : Int32) (x4 : Int32) (x5 : Int32) (σ1 : Hp) : Option ((Int32 × Int32 × Int32 × Hp) ⊕ (Int32 × Hp)) := ck (inb x5 29 = true) (if (hI σ1 56 x5.toNatClampNeg) = 0 then ex (some (x3, (sI σ1 40 19 x4))) else if x4 ≤ x2 then f_X12_word_b104 x1 x3 x2 σ1 else f_X12_word_b104 x1 x3 x4 σ1)
def f_X12_word_t23 (x1 : Int32) (x2 : Int32) (x3 : Int32) (x4 : Int32) (x5 : Int32) (σ1 : Hp) : Option ((Int32 × Int32 × Hp) ⊕ ((Int32 × Int32 × Int32 × Hp) ⊕ (Int32 × Hp))) := ck (inb x5 29 = true) (if (hI σ1 56 x5.toNatClampNeg) = 0 then ex (f_X12_word_b74 x1 x2 x3 x4 x5 σ1) else if (hI σ1 40 20) ≤ x4 then ex (f_X12_word_b74 x1 x2 x3 x4 x5 σ1) else ck (inb ((hI σ1 40 18) + x4) 1280 = true) (if ((hJ σ1 54 ((hI σ1 40 18) + x4).toNatClampNeg).toInt32) = (hI σ1 56 x5.toNatClampNeg) then some (.inl ((x4 + 1), (x5 + 1), σ1)) else ex (f_X12_word_b74 x1 x2 x3 x4 x5 σ1)))
def f_X12_word_s23 (x1 : Int32) (x2 : Int32) (x3 : Int32) (v : (Int32 × Int32 × Hp)) : Option ((Int32 × Int32 × Hp) ⊕ ((Int32 × Int32 × Int32 × Hp) ⊕ (Int32 × Hp))) := f_X12_word_t23 x1 x2 x3 v.1 v.2.1 v.2.2
def f_X12_word_t9 (x1 : Int32) (x2 : Int32) (x3 : Int32) (σ1 : Hp) : Option ((Int32 × Int32 × Int32 × Hp) ⊕ (Int32 × Hp)) := if (5 : Int32) ≤ x3 then ex (some ((-1 : Int32), (sI σ1 40 22 x2))) else iter (f_X12_word_s23 x1 x2 x3) fuel ((hI σ1 40 19), x1, σ1)
def f_X12_word_s9 (v : (Int32 × Int32 × Int32 × Hp)) : Option ((Int32 × Int32 × Int32 × Hp) ⊕ (Int32 × Hp)) := f_X12_word_t9 v.1 v.2.1 v.2.2.1 v.2.2.2
def f_X12_word (σ : Hp) : Option (Int32 × Hp) := iter (f_X12_word_s9) fuel ((0 : Int32), (hI σ 40 19), (0 : Int32), σ)
set_option maxHeartbeats 4000000 in
set_option maxRecDepth 100000 in
theorem c_X12_word (l : Launch) (g : tG) (P : Nat → Nat) (σ : Hp) (sz : Nat) {r : Int32} {τ : Hp} (h : f_X12_word σ = some (r, τ)) : Met l yX12_word (Cond.code yX12_word cX12_word 6 (some .int) :: tblG) ({ frames := 0, cells := 0, slots := 0, locals := 0 }) (va_Pc [.ref (gL g 40)] (tPre g P σ sz)) (tQ (some (.int r)) (tPost g P τ (va_A (wC g P σ) sz)) (va_A (wC g P σ) sz)) 0 0 (va_A (wC g P σ) sz) := by
  refine T_start (B := fun A => tPost g P τ A) (by decide) (Nat.le_of_ble_eq_true rfl) ?_
  intro p e s m args below meth c ls0 A hx hb hml hr hown hlocks ht hnm hK hZ hA hB0 hl0
  have hL_9 : ∀ (n : Nat) (x1 : Int32) (x2 : Int32) (x3 : Int32) (σ1 : Hp) (H : Heap) (locs : List Loc) (ls : Array Slot), iter (f_X12_word_s9) n (x1, x2, x3, σ1) = some (r, τ) → tB g P σ1 A s.heap H locs → lv_has ls 6 [(0, .ref (gL g 40)), (1, .int x1), (2, .int x2), (3, .int x3)] → WQ p l e { frames := 0, cells := 0, slots := 0, locals := 0 } s m args below meth c g P A (some (.int r)) τ H locs (F0 m 9 ls []) := by
    intro n
    induction n with
    | zero =>
      intro x1 x2 x3 σ1 H locs ls h hB hl
      exact (iter_0 h).elim
    | succ n ih1 =>
      intro x1 x2 x3 σ1 H locs ls h hB hl
      replace h := iter_eq h; obtain ⟨z1, hh1, hx1⟩ := h
      have hL_105 : ∀ (x2 : Int32) (x3 : Int32) (n : Nat) (x1 : Int32) (σ1 : Hp) (H : Heap) (locs : List Loc) (ls : Array Slot), iter (f_X12_word_s105 x2 x3) n (x1, σ1) = some z1 → tB g P σ1 A s.heap H locs → lv_has ls 6 [(0, .ref (gL g 40)), (1, .int x1), (2, .int x2), (3, .int x3)] → WQ p l e { frames := 0, cells := 0, slots := 0, locals := 0 } s m args below meth c g P A (some (.int r)) τ H locs (F0 m 105 ls []) := by
        intro x2 x3 n
        induction n with
        | zero =>
          intro x1 σ1 H locs ls h hB hl
          exact (iter_0 h).elim
        | succ n ih2 =>
          intro x1 σ1 H locs ls h hB hl
          replace h := iter_eq h; obtain ⟨z2, hh2, hx2⟩ := h
          have h : f_X12_word_t105 x2 x3 x1 σ1 = some z2 := hh2
          clear hh2
          unfold f_X12_word_t105 at h
          refine lv_aload_n hx hb dX12_word_105 rfl (lv_at hl 0 rfl) ?_
          refine R_get (v := .ref (gL g 56)) hx hb ht ui_X12 hown hK hB (by decide) (cell_8 rfl) rfl 16 (by decide) (ht _ tw932) (fun _ h9 => h9) rfl dX12_word_106 ?_
          refine lv_iload_n hx hb dX12_word_109 rfl (lv_at hl 1 rfl) ?_
          replace h := ck_eq h; obtain ⟨q_7, h⟩ := h
          refine R_iald hx hb hK hB rfl (inb_eq q_7) dX12_word_110 ?_
          refine lv_if_eq (tgt := 120) hx hb dX12_word_111 (by decide) (fun c_8 => ?_) (fun c_8 => ?_)
          · replace h := itp h c_8
            replace h := ex_eq h; obtain ⟨b2, h, hz2⟩ := h
            subst hz2
            have hz2 := (itk_inr hx2).symm
            subst hz2
            refine lv_iinc (v := x1 + 1) (lv' := [(1, .int (x1 + 1)), (0, .ref (gL g 40)), (2, .int x2), (3, .int x3)]) hx hb dX12_word_120 hl (k := 1) rfl rfl (by decide) rfl (fun ls hl => ?_)
            refine lv_iinc (v := x3 + 1) (lv' := [(3, .int (x3 + 1)), (1, .int (x1 + 1)), (0, .ref (gL g 40)), (2, .int x2)]) hx hb dX12_word_123 hl (k := 3) rfl rfl (by decide) rfl (fun ls hl => ?_)
            refine lv_goto (tgt := 9) hx hb dX12_word_126 (by decide) ?_
            obtain rfl := Option.some.inj h
            exact ih1 (x1 + 1) x2 (x3 + 1) σ1 H locs ls hx1 hB (lv_sub hl [2, 1, 3, 0] rfl)
          · replace h := itn h c_8
            refine lv_iinc (v := x1 + 1) (lv' := [(1, .int (x1 + 1)), (0, .ref (gL g 40)), (2, .int x2), (3, .int x3)]) hx hb dX12_word_114 hl (k := 1) rfl rfl (by decide) rfl (fun ls hl => ?_)
            refine lv_goto (tgt := 105) hx hb dX12_word_117 (by decide) ?_
            obtain rfl := Option.some.inj h
            exact ih2 (x1 + 1) σ1 H locs ls hx2 hB (lv_sub hl [1, 0, 2, 3] rfl)
      have hb_104 : ∀ (x1 : Int32) (x3 : Int32) (xt0 : Int32) (σ1 : Hp) (H : Heap) (locs : List Loc) (ls : Array Slot), f_X12_word_b104 x1 x3 xt0 σ1 = some z1 → tB g P σ1 A s.heap H locs → lv_has ls 6 [(0, .ref (gL g 40)), (1, .int x1), (3, .int x3)] → WQ p l e { frames := 0, cells := 0, slots := 0, locals := 0 } s m args below meth c g P A (some (.int r)) τ H locs (F0 m 104 ls [.int xt0]) := by
        intro x1 x3 xt0 σ1 H locs ls h hB hl
        unfold f_X12_word_b104 at h
        refine lv_istore_n (lv' := [(2, .int xt0), (0, .ref (gL g 40)), (1, .int x1), (3, .int x3)]) hx hb dX12_word_104 rfl hl (by decide) rfl (fun ls hl => ?_)
        exact hL_105 xt0 x3 fuel x1 σ1 H locs ls h hB (lv_sub hl [1, 2, 0, 3] rfl)
      have hb_74 : ∀ (x1 : Int32) (x2 : Int32) (x3 : Int32) (x4 : Int32) (x5 : Int32) (σ1 : Hp) (H : Heap) (locs : List Loc) (ls : Array Slot), f_X12_word_b74 x1 x2 x3 x4 x5 σ1 = some z1 → tB g P σ1 A s.heap H locs → lv_has ls 6 [(0, .ref (gL g 40)), (1, .int x1), (2, .int x2), (3, .int x3), (4, .int x4), (5, .int x5)] → WQ p l e { frames := 0, cells := 0, slots := 0, locals := 0 } s m args below meth c g P A (some (.int r)) τ H locs (F0 m 74 ls []) := by
        intro x1 x2 x3 x4 x5 σ1 H locs ls h hB hl
        unfold f_X12_word_b74 at h
        refine lv_aload_n hx hb dX12_word_74 rfl (lv_at hl 0 rfl) ?_
        refine R_get (v := .ref (gL g 56)) hx hb ht ui_X12 hown hK hB (by decide) (cell_8 rfl) rfl 16 (by decide) (ht _ tw932) (fun _ h9 => h9) rfl dX12_word_75 ?_
        refine lv_iload hx hb dX12_word_78 (lv_at hl 5 rfl) ?_
        replace h := ck_eq h; obtain ⟨q_4, h⟩ := h
        refine R_iald hx hb hK hB rfl (inb_eq q_4) dX12_word_80 ?_
        refine lv_if_ne (tgt := 92) hx hb dX12_word_81 (by decide) (fun c_5 => ?_) (fun c_5 => ?_)
        · replace h := itn h c_5
          refine lv_iload hx hb dX12_word_92 (lv_at hl 4 rfl) ?_
          refine lv_iload_n hx hb dX12_word_94 rfl (lv_at hl 2 rfl) ?_
          refine lv_icmp_le (tgt := 103) hx hb dX12_word_95 (by decide) (fun c_6 => ?_) (fun c_6 => ?_)
          · replace h := itp h c_6
            refine lv_iload_n hx hb dX12_word_103 rfl (lv_at hl 2 rfl) ?_
            exact hb_104 x1 x3 x2 σ1 H locs ls h hB (lv_sub hl [0, 1, 3] rfl)
          · replace h := itn h c_6
            refine lv_iload hx hb dX12_word_98 (lv_at hl 4 rfl) ?_
            refine lv_goto (tgt := 104) hx hb dX12_word_100 (by decide) ?_
            exact hb_104 x1 x3 x4 σ1 H locs ls h hB (lv_sub hl [0, 1, 3] rfl)
        · replace h := itp h c_5
          replace h := ex_eq h; obtain ⟨b1, h, hz1⟩ := h
          subst hz1
          have hz1 := (itk_inr hx1).symm
          subst hz1
          refine lv_aload_n hx hb dX12_word_84 rfl (lv_at hl 0 rfl) ?_
          refine lv_iload hx hb dX12_word_85 (lv_at hl 4 rfl) ?_
          refine R_putI (v := x4) (ty := .int) hx hb ht ui_X12 tyX12 tyX12_ok nmX12 hown hK hB (by decide) (cell_8 rfl) rfl 19 (by decide) (ht _ tw935) (fun _ h9 => h9) rfl (by decide +kernel) rfl rfl (Nat.le_of_ble_eq_true rfl) (st8_19 rfl) dX12_word_87 (fun H locs hB => ?_)
          refine lv_iload_n hx hb dX12_word_90 rfl (lv_at hl 3 rfl) ?_
          obtain ⟨rfl, rfl⟩ := Prod.mk.inj (Option.some.inj h)
          exact W.iret hx hb hr (R_end hB) hB.2.2.2.2 dX12_word_91
      have hL_23 : ∀ (x1 : Int32) (x2 : Int32) (x3 : Int32) (n : Nat) (x4 : Int32) (x5 : Int32) (σ1 : Hp) (H : Heap) (locs : List Loc) (ls : Array Slot), iter (f_X12_word_s23 x1 x2 x3) n (x4, x5, σ1) = some z1 → tB g P σ1 A s.heap H locs → lv_has ls 6 [(0, .ref (gL g 40)), (1, .int x1), (2, .int x2), (3, .int x3), (4, .int x4), (5, .int x5)] → WQ p l e { frames := 0, cells := 0, slots := 0, locals := 0 } s m args below meth c g P A (some (.int r)) τ H locs (F0 m 23 ls []) := by
        intro x1 x2 x3 n
        induction n with
        | zero =>
          intro x4 x5 σ1 H locs ls h hB hl
          exact (iter_0 h).elim
        | succ n ih2 =>
          intro x4 x5 σ1 H locs ls h hB hl
          replace h := iter_eq h; obtain ⟨z2, hh2, hx2⟩ := h
          have h : f_X12_word_t23 x1 x2 x3 x4 x5 σ1 = some z2 := hh2
          clear hh2
          unfold f_X12_word_t23 at h
          refine lv_aload_n hx hb dX12_word_23 rfl (lv_at hl 0 rfl) ?_
          refine R_get (v := .ref (gL g 56)) hx hb ht ui_X12 hown hK hB (by decide) (cell_8 rfl) rfl 16 (by decide) (ht _ tw932) (fun _ h9 => h9) rfl dX12_word_24 ?_
          refine lv_iload hx hb dX12_word_27 (lv_at hl 5 rfl) ?_
          replace h := ck_eq h; obtain ⟨q_2, h⟩ := h
          refine R_iald hx hb hK hB rfl (inb_eq q_2) dX12_word_29 ?_
          refine lv_if_eq (tgt := 74) hx hb dX12_word_30 (by decide) (fun c_3 => ?_) (fun c_3 => ?_)
          · replace h := itp h c_3
            replace h := ex_eq h; obtain ⟨b2, h, hz2⟩ := h
            subst hz2
            have hz2 := (itk_inr hx2).symm
            subst hz2
            exact hb_74 x1 x2 x3 x4 x5 σ1 H locs ls h hB (lv_sub hl [0, 1, 2, 3, 4, 5] rfl)
          · replace h := itn h c_3
            refine lv_iload hx hb dX12_word_33 (lv_at hl 4 rfl) ?_
            refine lv_aload_n hx hb dX12_word_35 rfl (lv_at hl 0 rfl) ?_
            refine R_get (v := .int (hI σ1 40 20)) hx hb ht ui_X12 hown hK hB (by decide) (cell_8 rfl) rfl 20 (by decide) (ht _ tw936) (fun _ h9 => h9) rfl dX12_word_36 ?_
            refine lv_icmp_ge (tgt := 74) hx hb dX12_word_39 (by decide) (fun c_9 => ?_) (fun c_9 => ?_)
            · replace h := itp h c_9
              replace h := ex_eq h; obtain ⟨b2, h, hz2⟩ := h
              subst hz2
              have hz2 := (itk_inr hx2).symm
              subst hz2
              exact hb_74 x1 x2 x3 x4 x5 σ1 H locs ls h hB (lv_sub hl [0, 1, 2, 3, 4, 5] rfl)
            · replace h := itn h c_9
              refine lv_aload_n hx hb dX12_word_42 rfl (lv_at hl 0 rfl) ?_
              refine R_get (v := .ref (gL g 54)) hx hb ht ui_X12 hown hK hB (by decide) (cell_8 rfl) rfl 14 (by decide) (ht _ tw930) (fun _ h9 => h9) rfl dX12_word_43 ?_
              refine lv_aload_n hx hb dX12_word_46 rfl (lv_at hl 0 rfl) ?_
              refine R_get (v := .int (hI σ1 40 18)) hx hb ht ui_X12 hown hK hB (by decide) (cell_8 rfl) rfl 18 (by decide) (ht _ tw934) (fun _ h9 => h9) rfl dX12_word_47 ?_
              refine lv_iload hx hb dX12_word_50 (lv_at hl 4 rfl) ?_
              refine lv_iadd hx hb dX12_word_52 ?_
              replace h := ck_eq h; obtain ⟨q_10, h⟩ := h
              refine R_lald hx hb hK hB rfl (inb_eq q_10) dX12_word_53 ?_
              refine lv_l2i (v := (hJ σ1 54 ((hI σ1 40 18) + x4).toNatClampNeg).toInt32) hx hb dX12_word_54 rfl ?_
              refine lv_aload_n hx hb dX12_word_55 rfl (lv_at hl 0 rfl) ?_
              refine R_get (v := .ref (gL g 56)) hx hb ht ui_X12 hown hK hB (by decide) (cell_8 rfl) rfl 16 (by decide) (ht _ tw932) (fun _ h9 => h9) rfl dX12_word_56 ?_
              refine lv_iload hx hb dX12_word_59 (lv_at hl 5 rfl) ?_
              refine R_iald hx hb hK hB rfl (inb_eq q_2) dX12_word_61 ?_
              refine lv_icmp_ne (tgt := 74) hx hb dX12_word_62 (by decide) (fun c_11 => ?_) (fun c_11 => ?_)
              · replace h := itn h c_11
                replace h := ex_eq h; obtain ⟨b2, h, hz2⟩ := h
                subst hz2
                have hz2 := (itk_inr hx2).symm
                subst hz2
                exact hb_74 x1 x2 x3 x4 x5 σ1 H locs ls h hB (lv_sub hl [0, 1, 2, 3, 4, 5] rfl)
              · replace h := itp h c_11
                refine lv_iinc (v := x4 + 1) (lv' := [(4, .int (x4 + 1)), (0, .ref (gL g 40)), (1, .int x1), (2, .int x2), (3, .int x3), (5, .int x5)]) hx hb dX12_word_65 hl (k := 4) rfl rfl (by decide) rfl (fun ls hl => ?_)
                refine lv_iinc (v := x5 + 1) (lv' := [(5, .int (x5 + 1)), (4, .int (x4 + 1)), (0, .ref (gL g 40)), (1, .int x1), (2, .int x2), (3, .int x3)]) hx hb dX12_word_68 hl (k := 5) rfl rfl (by decide) rfl (fun ls hl => ?_)
                refine lv_goto (tgt := 23) hx hb dX12_word_71 (by decide) ?_
                obtain rfl := Option.some.inj h
                exact ih2 (x4 + 1) (x5 + 1) σ1 H locs ls hx2 hB (lv_sub hl [2, 3, 4, 5, 1, 0] rfl)
      have h : f_X12_word_t9 x1 x2 x3 σ1 = some z1 := hh1
      clear hh1
      unfold f_X12_word_t9 at h
      refine lv_iload_n hx hb dX12_word_9 rfl (lv_at hl 3 rfl) ?_
      refine lv_iconst (v := 5) hx hb dX12_word_10 (by decide) ?_
      refine lv_icmp_ge (tgt := 129) hx hb dX12_word_11 (by decide) (fun c_1 => ?_) (fun c_1 => ?_)
      · replace h := itp h c_1
        replace h := ex_eq h; obtain ⟨b1, h, hz1⟩ := h
        subst hz1
        have hz1 := (itk_inr hx1).symm
        subst hz1
        refine lv_aload_n hx hb dX12_word_129 rfl (lv_at hl 0 rfl) ?_
        refine lv_iload_n hx hb dX12_word_130 rfl (lv_at hl 2 rfl) ?_
        refine R_putI (v := x2) (ty := .int) hx hb ht ui_X12 tyX12 tyX12_ok nmX12 hown hK hB (by decide) (cell_8 rfl) rfl 22 (by decide) (ht _ tw938) (fun _ h9 => h9) rfl (by decide +kernel) rfl rfl (Nat.le_of_ble_eq_true rfl) (st8_22 rfl) dX12_word_131 (fun H locs hB => ?_)
        refine lv_iconst (v := -1) hx hb dX12_word_134 (by decide) ?_
        obtain ⟨rfl, rfl⟩ := Prod.mk.inj (Option.some.inj h)
        exact W.iret hx hb hr (R_end hB) hB.2.2.2.2 dX12_word_135
      · replace h := itn h c_1
        refine lv_aload_n hx hb dX12_word_14 rfl (lv_at hl 0 rfl) ?_
        refine R_get (v := .int (hI σ1 40 19)) hx hb ht ui_X12 hown hK hB (by decide) (cell_8 rfl) rfl 19 (by decide) (ht _ tw935) (fun _ h9 => h9) rfl dX12_word_15 ?_
        refine lv_istore (lv' := [(4, .int (hI σ1 40 19)), (0, .ref (gL g 40)), (1, .int x1), (2, .int x2), (3, .int x3)]) hx hb dX12_word_18 hl (by decide) rfl (fun ls hl => ?_)
        refine lv_iload_n hx hb dX12_word_20 rfl (lv_at hl 2 rfl) ?_
        refine lv_istore (lv' := [(5, .int x1), (4, .int (hI σ1 40 19)), (0, .ref (gL g 40)), (1, .int x1), (2, .int x2), (3, .int x3)]) hx hb dX12_word_21 hl (by decide) rfl (fun ls hl => ?_)
        exact hL_23 x1 x2 x3 fuel (hI σ1 40 19) x1 σ1 H locs ls h hB (lv_sub hl [2, 3, 4, 5, 1, 0] rfl)
  suffices hmain : ∀ (H : Heap) (locs : List Loc) (ls : Array Slot), tB g P σ A s.heap H locs → lv_has ls 6 [(0, .ref (gL g 40))] → WQ p l e { frames := 0, cells := 0, slots := 0, locals := 0 } s m args below meth c g P A (some (.int r)) τ H locs (F0 m 0 ls []) from hmain _ _ ls0 hB0 hl0
  intro H locs ls hB hl
  unfold f_X12_word at h
  refine lv_iconst (v := 0) hx hb dX12_word_0 (by decide) ?_
  refine lv_istore_n (lv' := [(1, .int (0 : Int32)), (0, .ref (gL g 40))]) hx hb dX12_word_1 rfl hl (by decide) rfl (fun ls hl => ?_)
  refine lv_aload_n hx hb dX12_word_2 rfl (lv_at hl 1 rfl) ?_
  refine R_get (v := .int (hI σ 40 19)) hx hb ht ui_X12 hown hK hB (by decide) (cell_8 rfl) rfl 19 (by decide) (ht _ tw935) (fun _ h9 => h9) rfl dX12_word_3 ?_
  refine lv_istore_n (lv' := [(2, .int (hI σ 40 19)), (1, .int (0 : Int32)), (0, .ref (gL g 40))]) hx hb dX12_word_6 rfl hl (by decide) rfl (fun ls hl => ?_)
  refine lv_iconst (v := 0) hx hb dX12_word_7 (by decide) ?_
  refine lv_istore_n (lv' := [(3, .int (0 : Int32)), (2, .int (hI σ 40 19)), (1, .int (0 : Int32)), (0, .ref (gL g 40))]) hx hb dX12_word_8 rfl hl (by decide) rfl (fun ls hl => ?_)
  exact hL_9 fuel (0 : Int32) (hI σ 40 19) (0 : Int32) σ H locs ls h hB (lv_sub hl [3, 2, 1, 0] rfl)
def f_X12_isDigit (σ : Hp) : Option (Int32 × Hp) := if (hI σ 40 20) ≤ (hI σ 40 19) then some ((0 : Int32), σ) else ck (inb ((hI σ 40 18) + (hI σ 40 19)) 1280 = true) (if ((hJ σ 54 ((hI σ 40 18) + (hI σ 40 19)).toNatClampNeg).toInt32) < (48 : Int32) then some ((0 : Int32), σ) else if (57 : Int32) < ((hJ σ 54 ((hI σ 40 18) + (hI σ 40 19)).toNatClampNeg).toInt32) then some ((0 : Int32), σ) else some ((1 : Int32), σ))
set_option maxHeartbeats 4000000 in
set_option maxRecDepth 100000 in
theorem c_X12_isDigit (l : Launch) (g : tG) (P : Nat → Nat) (σ : Hp) (sz : Nat) {r : Int32} {τ : Hp} (h : f_X12_isDigit σ = some (r, τ)) : Met l yX12_isDigit (Cond.code yX12_isDigit cX12_isDigit 1 (some .boolean) :: tblG) ({ frames := 0, cells := 0, slots := 0, locals := 0 }) (va_Pc [.ref (gL g 40)] (tPre g P σ sz)) (tQ (some (.int r)) (tPost g P τ (va_A (wC g P σ) sz)) (va_A (wC g P σ) sz)) 0 0 (va_A (wC g P σ) sz) := by
  refine T_start (B := fun A => tPost g P τ A) (by decide) (Nat.le_of_ble_eq_true rfl) ?_
  intro p e s m args below meth c ls0 A hx hb hml hr hown hlocks ht hnm hK hZ hA hB0 hl0
  suffices hmain : ∀ (H : Heap) (locs : List Loc) (ls : Array Slot), tB g P σ A s.heap H locs → lv_has ls 1 [(0, .ref (gL g 40))] → WQ p l e { frames := 0, cells := 0, slots := 0, locals := 0 } s m args below meth c g P A (some (.int r)) τ H locs (F0 m 0 ls []) from hmain _ _ ls0 hB0 hl0
  intro H locs ls hB hl
  unfold f_X12_isDigit at h
  refine lv_aload_n hx hb dX12_isDigit_0 rfl (lv_at hl 0 rfl) ?_
  refine R_get (v := .int (hI σ 40 19)) hx hb ht ui_X12 hown hK hB (by decide) (cell_8 rfl) rfl 19 (by decide) (ht _ tw935) (fun _ h9 => h9) rfl dX12_isDigit_1 ?_
  refine lv_aload_n hx hb dX12_isDigit_4 rfl (lv_at hl 0 rfl) ?_
  refine R_get (v := .int (hI σ 40 20)) hx hb ht ui_X12 hown hK hB (by decide) (cell_8 rfl) rfl 20 (by decide) (ht _ tw936) (fun _ h9 => h9) rfl dX12_isDigit_5 ?_
  refine lv_icmp_ge (tgt := 55) hx hb dX12_isDigit_8 (by decide) (fun c_1 => ?_) (fun c_1 => ?_)
  · replace h := itp h c_1
    refine lv_iconst (v := 0) hx hb dX12_isDigit_55 (by decide) ?_
    obtain ⟨rfl, rfl⟩ := Prod.mk.inj (Option.some.inj h)
    exact W.zret hx hb hr rfl (R_end hB) hB.2.2.2.2 dX12_isDigit_56
  · replace h := itn h c_1
    refine lv_aload_n hx hb dX12_isDigit_11 rfl (lv_at hl 0 rfl) ?_
    refine R_get (v := .ref (gL g 54)) hx hb ht ui_X12 hown hK hB (by decide) (cell_8 rfl) rfl 14 (by decide) (ht _ tw930) (fun _ h9 => h9) rfl dX12_isDigit_12 ?_
    refine lv_aload_n hx hb dX12_isDigit_15 rfl (lv_at hl 0 rfl) ?_
    refine R_get (v := .int (hI σ 40 18)) hx hb ht ui_X12 hown hK hB (by decide) (cell_8 rfl) rfl 18 (by decide) (ht _ tw934) (fun _ h9 => h9) rfl dX12_isDigit_16 ?_
    refine lv_aload_n hx hb dX12_isDigit_19 rfl (lv_at hl 0 rfl) ?_
    refine R_get (v := .int (hI σ 40 19)) hx hb ht ui_X12 hown hK hB (by decide) (cell_8 rfl) rfl 19 (by decide) (ht _ tw935) (fun _ h9 => h9) rfl dX12_isDigit_20 ?_
    refine lv_iadd hx hb dX12_isDigit_23 ?_
    replace h := ck_eq h; obtain ⟨q_2, h⟩ := h
    refine R_lald hx hb hK hB rfl (inb_eq q_2) dX12_isDigit_24 ?_
    refine lv_l2i (v := (hJ σ 54 ((hI σ 40 18) + (hI σ 40 19)).toNatClampNeg).toInt32) hx hb dX12_isDigit_25 rfl ?_
    refine lv_bipush (v := 48) hx hb dX12_isDigit_26 (by decide) ?_
    refine lv_icmp_lt (tgt := 55) hx hb dX12_isDigit_28 (by decide) (fun c_3 => ?_) (fun c_3 => ?_)
    · replace h := itp h c_3
      refine lv_iconst (v := 0) hx hb dX12_isDigit_55 (by decide) ?_
      obtain ⟨rfl, rfl⟩ := Prod.mk.inj (Option.some.inj h)
      exact W.zret hx hb hr rfl (R_end hB) hB.2.2.2.2 dX12_isDigit_56
    · replace h := itn h c_3
      refine lv_aload_n hx hb dX12_isDigit_31 rfl (lv_at hl 0 rfl) ?_
      refine R_get (v := .ref (gL g 54)) hx hb ht ui_X12 hown hK hB (by decide) (cell_8 rfl) rfl 14 (by decide) (ht _ tw930) (fun _ h9 => h9) rfl dX12_isDigit_32 ?_
      refine lv_aload_n hx hb dX12_isDigit_35 rfl (lv_at hl 0 rfl) ?_
      refine R_get (v := .int (hI σ 40 18)) hx hb ht ui_X12 hown hK hB (by decide) (cell_8 rfl) rfl 18 (by decide) (ht _ tw934) (fun _ h9 => h9) rfl dX12_isDigit_36 ?_
      refine lv_aload_n hx hb dX12_isDigit_39 rfl (lv_at hl 0 rfl) ?_
      refine R_get (v := .int (hI σ 40 19)) hx hb ht ui_X12 hown hK hB (by decide) (cell_8 rfl) rfl 19 (by decide) (ht _ tw935) (fun _ h9 => h9) rfl dX12_isDigit_40 ?_
      refine lv_iadd hx hb dX12_isDigit_43 ?_
      refine R_lald hx hb hK hB rfl (inb_eq q_2) dX12_isDigit_44 ?_
      refine lv_l2i (v := (hJ σ 54 ((hI σ 40 18) + (hI σ 40 19)).toNatClampNeg).toInt32) hx hb dX12_isDigit_45 rfl ?_
      refine lv_bipush (v := 57) hx hb dX12_isDigit_46 (by decide) ?_
      refine lv_icmp_gt (tgt := 55) hx hb dX12_isDigit_48 (by decide) (fun c_4 => ?_) (fun c_4 => ?_)
      · replace h := itp h c_4
        refine lv_iconst (v := 0) hx hb dX12_isDigit_55 (by decide) ?_
        obtain ⟨rfl, rfl⟩ := Prod.mk.inj (Option.some.inj h)
        exact W.zret hx hb hr rfl (R_end hB) hB.2.2.2.2 dX12_isDigit_56
      · replace h := itn h c_4
        refine lv_iconst (v := 1) hx hb dX12_isDigit_51 (by decide) ?_
        refine lv_goto (tgt := 56) hx hb dX12_isDigit_52 (by decide) ?_
        obtain ⟨rfl, rfl⟩ := Prod.mk.inj (Option.some.inj h)
        exact W.zret hx hb hr rfl (R_end hB) hB.2.2.2.2 dX12_isDigit_56
def f_X12_number_t23 (x1 : Int32) (σ1 : Hp) : Option ((Int32 × Hp) ⊕ (Int32 × Hp)) := if (6 : Int32) ≤ x1 then ex (some ((1 : Int32), σ1)) else b2 (f_X12_isDigit σ1) (fun r_6 s_7 => if r_6 = 0 then ex (some ((1 : Int32), s_7)) else ck (inb ((hI s_7 40 18) + (hI s_7 40 19)) 1280 = true) (some (.inl ((x1 + 1), (sI (sI s_7 40 21 ((((10 : Int32) * (hI s_7 40 21)) + (hJ s_7 54 ((hI s_7 40 18) + (hI s_7 40 19)).toNatClampNeg).toInt32) - (48 : Int32))) 40 19 ((hI (sI s_7 40 21 ((((10 : Int32) * (hI s_7 40 21)) + (hJ s_7 54 ((hI s_7 40 18) + (hI s_7 40 19)).toNatClampNeg).toInt32) - (48 : Int32))) 40 19) + (1 : Int32)))))))
def f_X12_number_s23 (v : (Int32 × Hp)) : Option ((Int32 × Hp) ⊕ (Int32 × Hp)) := f_X12_number_t23 v.1 v.2
def f_X12_number (σ : Hp) : Option (Int32 × Hp) := b2 (f_X12_isDigit (sI σ 40 21 (0 : Int32))) (fun r_1 s_2 => if r_1 = 0 then b2 (f_X12_wrong (hI s_2 40 19) s_2) (fun r_11 s_12 => ck (isB r_11 = true) (some (r_11, s_12))) else iter (f_X12_number_s23) fuel ((0 : Int32), s_2))
set_option maxHeartbeats 4000000 in
set_option maxRecDepth 100000 in
theorem c_X12_number (l : Launch) (g : tG) (P : Nat → Nat) (σ : Hp) (sz : Nat) {r : Int32} {τ : Hp} (h : f_X12_number σ = some (r, τ)) : Met l yX12_number (Cond.code yX12_number cX12_number 2 (some .boolean) :: tblG) ({ frames := 1, cells := 0, slots := 0, locals := 21 }) (va_Pc [.ref (gL g 40)] (tPre g P σ sz)) (tQ (some (.int r)) (tPost g P τ (va_A (wC g P σ) sz)) (va_A (wC g P σ) sz)) 0 0 (va_A (wC g P σ) sz) := by
  refine T_start (B := fun A => tPost g P τ A) (by decide) (Nat.le_of_ble_eq_true rfl) ?_
  intro p e s m args below meth c ls0 A hx hb hml hr hown hlocks ht hnm hK hZ hA hB0 hl0
  have hL_23 : ∀ (n : Nat) (x1 : Int32) (σ1 : Hp) (H : Heap) (locs : List Loc) (ls : Array Slot), iter (f_X12_number_s23) n (x1, σ1) = some (r, τ) → tB g P σ1 A s.heap H locs → lv_has ls 2 [(0, .ref (gL g 40)), (1, .int x1)] → WQ p l e { frames := 1, cells := 0, slots := 0, locals := 21 } s m args below meth c g P A (some (.int r)) τ H locs (F0 m 23 ls []) := by
    intro n
    induction n with
    | zero =>
      intro x1 σ1 H locs ls h hB hl
      exact (iter_0 h).elim
    | succ n ih1 =>
      intro x1 σ1 H locs ls h hB hl
      replace h := iter_eq h; obtain ⟨z1, hh1, hx1⟩ := h
      have h : f_X12_number_t23 x1 σ1 = some z1 := hh1
      clear hh1
      unfold f_X12_number_t23 at h
      refine lv_iload_n hx hb dX12_number_23 rfl (lv_at hl 1 rfl) ?_
      refine lv_bipush (v := 6) hx hb dX12_number_24 (by decide) ?_
      refine lv_icmp_ge (tgt := 82) hx hb dX12_number_26 (by decide) (fun c_5 => ?_) (fun c_5 => ?_)
      · replace h := itp h c_5
        replace h := ex_eq h; obtain ⟨b1, h, hz1⟩ := h
        subst hz1
        have hz1 := (itk_inr hx1).symm
        subst hz1
        refine lv_iconst (v := 1) hx hb dX12_number_82 (by decide) ?_
        obtain ⟨rfl, rfl⟩ := Prod.mk.inj (Option.some.inj h)
        exact W.zret hx hb hr rfl (R_end hB) hB.2.2.2.2 dX12_number_83
      · replace h := itn h c_5
        refine lv_aload_n hx hb dX12_number_29 rfl (lv_at hl 0 rfl) ?_
        replace h := b2_eq h; obtain ⟨r_6, s_7, hc_8, h⟩ := h
        refine R_call (rest := []) [.int r_6] (R_runV (n := 0) (As := []) ⟨hx, hb, hml, hown, ht⟩ (fun _ h9 => h9) hK hZ hA hB (c_X12_isDigit l g P σ1 H.size hc_8) (R_recv hK hB (by decide) (cell_8 rfl) rfl) tw1157 tw1154 tw1156 pw42 tw5 ⟨by decide, by decide, by decide⟩ rfl rfl ⟨Nat.le_of_ble_eq_true rfl, Nat.le_of_ble_eq_true rfl⟩ rfl hl.1 rfl (Nat.le_of_ble_eq_true rfl) dX12_number_30 ⟨Nat.zero_le _, Nat.zero_le _⟩) hB hA rfl (fun H locs hB => ?_)
        refine lv_if_eq (tgt := 82) hx hb dX12_number_33 (by decide) (fun c_9 => ?_) (fun c_9 => ?_)
        · replace h := itp h c_9
          replace h := ex_eq h; obtain ⟨b1, h, hz1⟩ := h
          subst hz1
          have hz1 := (itk_inr hx1).symm
          subst hz1
          refine lv_iconst (v := 1) hx hb dX12_number_82 (by decide) ?_
          obtain ⟨rfl, rfl⟩ := Prod.mk.inj (Option.some.inj h)
          exact W.zret hx hb hr rfl (R_end hB) hB.2.2.2.2 dX12_number_83
        · replace h := itn h c_9
          refine lv_aload_n hx hb dX12_number_36 rfl (lv_at hl 0 rfl) ?_
          refine lv_bipush (v := 10) hx hb dX12_number_37 (by decide) ?_
          refine lv_aload_n hx hb dX12_number_39 rfl (lv_at hl 0 rfl) ?_
          refine R_get (v := .int (hI s_7 40 21)) hx hb ht ui_X12 hown hK hB (by decide) (cell_8 rfl) rfl 21 (by decide) (ht _ tw937) (fun _ h9 => h9) rfl dX12_number_40 ?_
          refine lv_imul hx hb dX12_number_43 ?_
          refine lv_aload_n hx hb dX12_number_44 rfl (lv_at hl 0 rfl) ?_
          refine R_get (v := .ref (gL g 54)) hx hb ht ui_X12 hown hK hB (by decide) (cell_8 rfl) rfl 14 (by decide) (ht _ tw930) (fun _ h9 => h9) rfl dX12_number_45 ?_
          refine lv_aload_n hx hb dX12_number_48 rfl (lv_at hl 0 rfl) ?_
          refine R_get (v := .int (hI s_7 40 18)) hx hb ht ui_X12 hown hK hB (by decide) (cell_8 rfl) rfl 18 (by decide) (ht _ tw934) (fun _ h9 => h9) rfl dX12_number_49 ?_
          refine lv_aload_n hx hb dX12_number_52 rfl (lv_at hl 0 rfl) ?_
          refine R_get (v := .int (hI s_7 40 19)) hx hb ht ui_X12 hown hK hB (by decide) (cell_8 rfl) rfl 19 (by decide) (ht _ tw935) (fun _ h9 => h9) rfl dX12_number_53 ?_
          refine lv_iadd hx hb dX12_number_56 ?_
          replace h := ck_eq h; obtain ⟨q_10, h⟩ := h
          refine R_lald hx hb hK hB rfl (inb_eq q_10) dX12_number_57 ?_
          refine lv_l2i (v := (hJ s_7 54 ((hI s_7 40 18) + (hI s_7 40 19)).toNatClampNeg).toInt32) hx hb dX12_number_58 rfl ?_
          refine lv_iadd hx hb dX12_number_59 ?_
          refine lv_bipush (v := 48) hx hb dX12_number_60 (by decide) ?_
          refine lv_isub hx hb dX12_number_62 ?_
          refine R_putI (v := ((((10 : Int32) * (hI s_7 40 21)) + (hJ s_7 54 ((hI s_7 40 18) + (hI s_7 40 19)).toNatClampNeg).toInt32) - (48 : Int32))) (ty := .int) hx hb ht ui_X12 tyX12 tyX12_ok nmX12 hown hK hB (by decide) (cell_8 rfl) rfl 21 (by decide) (ht _ tw937) (fun _ h9 => h9) rfl (by decide +kernel) rfl rfl (Nat.le_of_ble_eq_true rfl) (st8_21 rfl) dX12_number_63 (fun H locs hB => ?_)
          refine lv_aload_n hx hb dX12_number_66 rfl (lv_at hl 0 rfl) ?_
          refine lv_dup hx hb dX12_number_67 rfl ?_
          refine R_get (v := .int (hI (sI s_7 40 21 ((((10 : Int32) * (hI s_7 40 21)) + (hJ s_7 54 ((hI s_7 40 18) + (hI s_7 40 19)).toNatClampNeg).toInt32) - (48 : Int32))) 40 19)) hx hb ht ui_X12 hown hK hB (by decide) (cell_8 rfl) rfl 19 (by decide) (ht _ tw935) (fun _ h9 => h9) rfl dX12_number_68 ?_
          refine lv_iconst (v := 1) hx hb dX12_number_71 (by decide) ?_
          refine lv_iadd hx hb dX12_number_72 ?_
          refine R_putI (v := ((hI (sI s_7 40 21 ((((10 : Int32) * (hI s_7 40 21)) + (hJ s_7 54 ((hI s_7 40 18) + (hI s_7 40 19)).toNatClampNeg).toInt32) - (48 : Int32))) 40 19) + (1 : Int32))) (ty := .int) hx hb ht ui_X12 tyX12 tyX12_ok nmX12 hown hK hB (by decide) (cell_8 rfl) rfl 19 (by decide) (ht _ tw935) (fun _ h9 => h9) rfl (by decide +kernel) rfl rfl (Nat.le_of_ble_eq_true rfl) (st8_19 rfl) dX12_number_73 (fun H locs hB => ?_)
          refine lv_iinc (v := x1 + 1) (lv' := [(1, .int (x1 + 1)), (0, .ref (gL g 40))]) hx hb dX12_number_76 hl (k := 1) rfl rfl (by decide) rfl (fun ls hl => ?_)
          refine lv_goto (tgt := 23) hx hb dX12_number_79 (by decide) ?_
          obtain rfl := Option.some.inj h
          exact ih1 (x1 + 1) (sI (sI s_7 40 21 ((((10 : Int32) * (hI s_7 40 21)) + (hJ s_7 54 ((hI s_7 40 18) + (hI s_7 40 19)).toNatClampNeg).toInt32) - (48 : Int32))) 40 19 ((hI (sI s_7 40 21 ((((10 : Int32) * (hI s_7 40 21)) + (hJ s_7 54 ((hI s_7 40 18) + (hI s_7 40 19)).toNatClampNeg).toInt32) - (48 : Int32))) 40 19) + (1 : Int32))) H locs ls hx1 hB (lv_sub hl [1, 0] rfl)
  suffices hmain : ∀ (H : Heap) (locs : List Loc) (ls : Array Slot), tB g P σ A s.heap H locs → lv_has ls 2 [(0, .ref (gL g 40))] → WQ p l e { frames := 1, cells := 0, slots := 0, locals := 21 } s m args below meth c g P A (some (.int r)) τ H locs (F0 m 0 ls []) from hmain _ _ ls0 hB0 hl0
  intro H locs ls hB hl
  unfold f_X12_number at h
  refine lv_aload_n hx hb dX12_number_0 rfl (lv_at hl 0 rfl) ?_
  refine lv_iconst (v := 0) hx hb dX12_number_1 (by decide) ?_
  refine R_putI (v := (0 : Int32)) (ty := .int) hx hb ht ui_X12 tyX12 tyX12_ok nmX12 hown hK hB (by decide) (cell_8 rfl) rfl 21 (by decide) (ht _ tw937) (fun _ h9 => h9) rfl (by decide +kernel) rfl rfl (Nat.le_of_ble_eq_true rfl) (st8_21 rfl) dX12_number_2 (fun H locs hB => ?_)
  refine lv_aload_n hx hb dX12_number_5 rfl (lv_at hl 0 rfl) ?_
  replace h := b2_eq h; obtain ⟨r_1, s_2, hc_3, h⟩ := h
  refine R_call (rest := []) [.int r_1] (R_runV (n := 0) (As := []) ⟨hx, hb, hml, hown, ht⟩ (fun _ h9 => h9) hK hZ hA hB (c_X12_isDigit l g P (sI σ 40 21 (0 : Int32)) H.size hc_3) (R_recv hK hB (by decide) (cell_8 rfl) rfl) tw1157 tw1154 tw1156 pw42 tw5 ⟨by decide, by decide, by decide⟩ rfl rfl ⟨Nat.le_of_ble_eq_true rfl, Nat.le_of_ble_eq_true rfl⟩ rfl hl.1 rfl (Nat.le_of_ble_eq_true rfl) dX12_number_6 ⟨Nat.zero_le _, Nat.zero_le _⟩) hB hA rfl (fun H locs hB => ?_)
  refine lv_if_ne (tgt := 21) hx hb dX12_number_9 (by decide) (fun c_4 => ?_) (fun c_4 => ?_)
  · replace h := itn h c_4
    refine lv_iconst (v := 0) hx hb dX12_number_21 (by decide) ?_
    refine lv_istore_n (lv' := [(1, .int (0 : Int32)), (0, .ref (gL g 40))]) hx hb dX12_number_22 rfl hl (by decide) rfl (fun ls hl => ?_)
    exact hL_23 fuel (0 : Int32) s_2 H locs ls h hB (lv_sub hl [1, 0] rfl)
  · replace h := itp h c_4
    refine lv_aload_n hx hb dX12_number_12 rfl (lv_at hl 0 rfl) ?_
    refine lv_aload_n hx hb dX12_number_13 rfl (lv_at hl 0 rfl) ?_
    refine R_get (v := .int (hI s_2 40 19)) hx hb ht ui_X12 hown hK hB (by decide) (cell_8 rfl) rfl 19 (by decide) (ht _ tw935) (fun _ h9 => h9) rfl dX12_number_14 ?_
    replace h := b2_eq h; obtain ⟨r_11, s_12, hc_13, h⟩ := h
    refine R_call (rest := []) [.int r_11] (R_runV (n := 1) (As := [.int (hI s_2 40 19)]) ⟨hx, hb, hml, hown, ht⟩ (fun _ h9 => h9) hK hZ hA hB (c_X12_wrong l g P s_2 (hI s_2 40 19) H.size hc_13) (R_recv hK hB (by decide) (cell_8 rfl) rfl) tw1145 tw1142 tw1144 pw39 tw5 ⟨by decide, by decide, by decide⟩ rfl rfl ⟨Nat.le_of_ble_eq_true rfl, Nat.le_of_ble_eq_true rfl⟩ rfl hl.1 rfl (Nat.le_of_ble_eq_true rfl) dX12_number_17 ⟨Nat.zero_le _, Nat.zero_le _⟩) hB hA rfl (fun H locs hB => ?_)
    replace h := ck_eq h; obtain ⟨q_14, h⟩ := h
    obtain ⟨rfl, rfl⟩ := Prod.mk.inj (Option.some.inj h)
    exact W.zret hx hb hr (isB_eq q_14) (R_end hB) hB.2.2.2.2 dX12_number_20
def f_X12_isSo_b70 (xt0 : Int32) (xt1 : Int32) (σ1 : Hp) : Option (Int32 × Hp) := if xt0 < xt1 then some ((0 : Int32), σ1) else some ((1 : Int32), σ1)
def f_X12_isSo_b132 (xt0 : Int32) (xt1 : Int32) (σ1 : Hp) : Option (Int32 × Hp) := if xt0 < xt1 then some ((0 : Int32), σ1) else some ((1 : Int32), σ1)
def f_X12_isSo_b111 (σ1 : Hp) : Option (Int32 × Hp) := some ((0 : Int32), σ1)
def f_X12_isSo (a1 : Int32) (a2 : Int32) (σ : Hp) : Option (Int32 × Hp) := if a1 = 0 then if (hI σ 40 21) < (2 : Int32) then some ((0 : Int32), σ) else if (10 : Int32) < (hI σ 40 21) then some ((0 : Int32), σ) else some ((1 : Int32), σ) else (if a1 = 1 then if a2 = 0 then f_X12_isSo_b70 (6 : Int32) (hI σ 40 21) σ else f_X12_isSo_b70 (9 : Int32) (hI σ 40 21) σ else (if a1 = 2 then if a2 = 0 then if (hI σ 40 0) ≤ (hI σ 40 21) then f_X12_isSo_b111 σ else ck (inb (hI σ 40 21) 6 = true) (if (hI σ 46 (hI σ 40 21).toNatClampNeg) = (5 : Int32) then some ((1 : Int32), σ) else f_X12_isSo_b111 σ) else if a2 = (1 : Int32) then f_X12_isSo_b132 (9 : Int32) (hI σ 40 21) σ else f_X12_isSo_b132 (999 : Int32) (hI σ 40 21) σ else (if a1 = 3 then some ((1 : Int32), σ) else (if (hI σ 40 0) ≤ (hI σ 40 21) then some ((0 : Int32), σ) else some ((1 : Int32), σ)))))
set_option maxHeartbeats 4000000 in
set_option maxRecDepth 100000 in
theorem c_X12_isSo (l : Launch) (g : tG) (P : Nat → Nat) (σ : Hp) (a1 : Int32) (a2 : Int32) (sz : Nat) {r : Int32} {τ : Hp} (h : f_X12_isSo a1 a2 σ = some (r, τ)) : Met l yX12_isSo (Cond.code yX12_isSo cX12_isSo 3 (some .boolean) :: tblG) ({ frames := 0, cells := 0, slots := 0, locals := 0 }) (va_Pc [.ref (gL g 40), .int a1, .int a2] (tPre g P σ sz)) (tQ (some (.int r)) (tPost g P τ (va_A (wC g P σ) sz)) (va_A (wC g P σ) sz)) 0 0 (va_A (wC g P σ) sz) := by
  refine T_start (B := fun A => tPost g P τ A) (by decide) (Nat.le_of_ble_eq_true rfl) ?_
  intro p e s m args below meth c ls0 A hx hb hml hr hown hlocks ht hnm hK hZ hA hB0 hl0
  have hb_70 : ∀ (xt0 : Int32) (xt1 : Int32) (σ1 : Hp) (H : Heap) (locs : List Loc) (ls : Array Slot), f_X12_isSo_b70 xt0 xt1 σ1 = some (r, τ) → tB g P σ1 A s.heap H locs → lv_has ls 3 [] → WQ p l e { frames := 0, cells := 0, slots := 0, locals := 0 } s m args below meth c g P A (some (.int r)) τ H locs (F0 m 70 ls [.int xt0, .int xt1]) := by
    intro xt0 xt1 σ1 H locs ls h hB hl
    unfold f_X12_isSo_b70 at h
    refine lv_icmp_gt (tgt := 77) hx hb dX12_isSo_70 (by decide) (fun c_6 => ?_) (fun c_6 => ?_)
    · replace h := itp h c_6
      refine lv_iconst (v := 0) hx hb dX12_isSo_77 (by decide) ?_
      obtain ⟨rfl, rfl⟩ := Prod.mk.inj (Option.some.inj h)
      exact W.zret hx hb hr rfl (R_end hB) hB.2.2.2.2 dX12_isSo_78
    · replace h := itn h c_6
      refine lv_iconst (v := 1) hx hb dX12_isSo_73 (by decide) ?_
      refine lv_goto (tgt := 78) hx hb dX12_isSo_74 (by decide) ?_
      obtain ⟨rfl, rfl⟩ := Prod.mk.inj (Option.some.inj h)
      exact W.zret hx hb hr rfl (R_end hB) hB.2.2.2.2 dX12_isSo_78
  have hb_132 : ∀ (xt0 : Int32) (xt1 : Int32) (σ1 : Hp) (H : Heap) (locs : List Loc) (ls : Array Slot), f_X12_isSo_b132 xt0 xt1 σ1 = some (r, τ) → tB g P σ1 A s.heap H locs → lv_has ls 3 [] → WQ p l e { frames := 0, cells := 0, slots := 0, locals := 0 } s m args below meth c g P A (some (.int r)) τ H locs (F0 m 132 ls [.int xt0, .int xt1]) := by
    intro xt0 xt1 σ1 H locs ls h hB hl
    unfold f_X12_isSo_b132 at h
    refine lv_icmp_gt (tgt := 139) hx hb dX12_isSo_132 (by decide) (fun c_10 => ?_) (fun c_10 => ?_)
    · replace h := itp h c_10
      refine lv_iconst (v := 0) hx hb dX12_isSo_139 (by decide) ?_
      obtain ⟨rfl, rfl⟩ := Prod.mk.inj (Option.some.inj h)
      exact W.zret hx hb hr rfl (R_end hB) hB.2.2.2.2 dX12_isSo_140
    · replace h := itn h c_10
      refine lv_iconst (v := 1) hx hb dX12_isSo_135 (by decide) ?_
      refine lv_goto (tgt := 140) hx hb dX12_isSo_136 (by decide) ?_
      obtain ⟨rfl, rfl⟩ := Prod.mk.inj (Option.some.inj h)
      exact W.zret hx hb hr rfl (R_end hB) hB.2.2.2.2 dX12_isSo_140
  have hb_111 : ∀ (σ1 : Hp) (H : Heap) (locs : List Loc) (ls : Array Slot), f_X12_isSo_b111 σ1 = some (r, τ) → tB g P σ1 A s.heap H locs → lv_has ls 3 [] → WQ p l e { frames := 0, cells := 0, slots := 0, locals := 0 } s m args below meth c g P A (some (.int r)) τ H locs (F0 m 111 ls []) := by
    intro σ1 H locs ls h hB hl
    unfold f_X12_isSo_b111 at h
    refine lv_iconst (v := 0) hx hb dX12_isSo_111 (by decide) ?_
    refine lv_goto (tgt := 140) hx hb dX12_isSo_112 (by decide) ?_
    obtain ⟨rfl, rfl⟩ := Prod.mk.inj (Option.some.inj h)
    exact W.zret hx hb hr rfl (R_end hB) hB.2.2.2.2 dX12_isSo_140
  suffices hmain : ∀ (H : Heap) (locs : List Loc) (ls : Array Slot), tB g P σ A s.heap H locs → lv_has ls 3 [(0, .ref (gL g 40)), (1, .int a1), (2, .int a2)] → WQ p l e { frames := 0, cells := 0, slots := 0, locals := 0 } s m args below meth c g P A (some (.int r)) τ H locs (F0 m 0 ls []) from hmain _ _ ls0 hB0 hl0
  intro H locs ls hB hl
  unfold f_X12_isSo at h
  refine lv_iload_n hx hb dX12_isSo_0 rfl (lv_at hl 1 rfl) ?_
  by_cases c_1 : a1 = 0
  · replace h := itp h c_1
    refine lv_tableIn (tgt := 32) hx hb dX12_isSo_1 (by rw [c_1]; decide) (by rw [c_1]; decide) (by rw [c_1]; rfl) (by decide) ?_
    refine lv_aload_n hx hb dX12_isSo_32 rfl (lv_at hl 0 rfl) ?_
    refine R_get (v := .int (hI σ 40 21)) hx hb ht ui_X12 hown hK hB (by decide) (cell_8 rfl) rfl 21 (by decide) (ht _ tw937) (fun _ h9 => h9) rfl dX12_isSo_33 ?_
    refine lv_iconst (v := 2) hx hb dX12_isSo_36 (by decide) ?_
    refine lv_icmp_lt (tgt := 53) hx hb dX12_isSo_37 (by decide) (fun c_2 => ?_) (fun c_2 => ?_)
    · replace h := itp h c_2
      refine lv_iconst (v := 0) hx hb dX12_isSo_53 (by decide) ?_
      obtain ⟨rfl, rfl⟩ := Prod.mk.inj (Option.some.inj h)
      exact W.zret hx hb hr rfl (R_end hB) hB.2.2.2.2 dX12_isSo_54
    · replace h := itn h c_2
      refine lv_aload_n hx hb dX12_isSo_40 rfl (lv_at hl 0 rfl) ?_
      refine R_get (v := .int (hI σ 40 21)) hx hb ht ui_X12 hown hK hB (by decide) (cell_8 rfl) rfl 21 (by decide) (ht _ tw937) (fun _ h9 => h9) rfl dX12_isSo_41 ?_
      refine lv_bipush (v := 10) hx hb dX12_isSo_44 (by decide) ?_
      refine lv_icmp_gt (tgt := 53) hx hb dX12_isSo_46 (by decide) (fun c_3 => ?_) (fun c_3 => ?_)
      · replace h := itp h c_3
        refine lv_iconst (v := 0) hx hb dX12_isSo_53 (by decide) ?_
        obtain ⟨rfl, rfl⟩ := Prod.mk.inj (Option.some.inj h)
        exact W.zret hx hb hr rfl (R_end hB) hB.2.2.2.2 dX12_isSo_54
      · replace h := itn h c_3
        refine lv_iconst (v := 1) hx hb dX12_isSo_49 (by decide) ?_
        refine lv_goto (tgt := 54) hx hb dX12_isSo_50 (by decide) ?_
        obtain ⟨rfl, rfl⟩ := Prod.mk.inj (Option.some.inj h)
        exact W.zret hx hb hr rfl (R_end hB) hB.2.2.2.2 dX12_isSo_54
  · replace h := itn h c_1
    by_cases c_4 : a1 = 1
    · replace h := itp h c_4
      refine lv_tableIn (tgt := 55) hx hb dX12_isSo_1 (by rw [c_4]; decide) (by rw [c_4]; decide) (by rw [c_4]; rfl) (by decide) ?_
      refine lv_aload_n hx hb dX12_isSo_55 rfl (lv_at hl 0 rfl) ?_
      refine R_get (v := .int (hI σ 40 21)) hx hb ht ui_X12 hown hK hB (by decide) (cell_8 rfl) rfl 21 (by decide) (ht _ tw937) (fun _ h9 => h9) rfl dX12_isSo_56 ?_
      refine lv_iload_n hx hb dX12_isSo_59 rfl (lv_at hl 2 rfl) ?_
      refine lv_if_ne (tgt := 68) hx hb dX12_isSo_60 (by decide) (fun c_5 => ?_) (fun c_5 => ?_)
      · replace h := itn h c_5
        refine lv_bipush (v := 9) hx hb dX12_isSo_68 (by decide) ?_
        exact hb_70 (9 : Int32) (hI σ 40 21) σ H locs ls h hB (lv_sub hl [] rfl)
      · replace h := itp h c_5
        refine lv_bipush (v := 6) hx hb dX12_isSo_63 (by decide) ?_
        refine lv_goto (tgt := 70) hx hb dX12_isSo_65 (by decide) ?_
        exact hb_70 (6 : Int32) (hI σ 40 21) σ H locs ls h hB (lv_sub hl [] rfl)
    · replace h := itn h c_4
      by_cases c_7 : a1 = 2
      · replace h := itp h c_7
        refine lv_tableIn (tgt := 79) hx hb dX12_isSo_1 (by rw [c_7]; decide) (by rw [c_7]; decide) (by rw [c_7]; rfl) (by decide) ?_
        refine lv_iload_n hx hb dX12_isSo_79 rfl (lv_at hl 2 rfl) ?_
        refine lv_if_ne (tgt := 115) hx hb dX12_isSo_80 (by decide) (fun c_8 => ?_) (fun c_8 => ?_)
        · replace h := itn h c_8
          refine lv_aload_n hx hb dX12_isSo_115 rfl (lv_at hl 0 rfl) ?_
          refine R_get (v := .int (hI σ 40 21)) hx hb ht ui_X12 hown hK hB (by decide) (cell_8 rfl) rfl 21 (by decide) (ht _ tw937) (fun _ h9 => h9) rfl dX12_isSo_116 ?_
          refine lv_iload_n hx hb dX12_isSo_119 rfl (lv_at hl 2 rfl) ?_
          refine lv_iconst (v := 1) hx hb dX12_isSo_120 (by decide) ?_
          refine lv_icmp_ne (tgt := 129) hx hb dX12_isSo_121 (by decide) (fun c_9 => ?_) (fun c_9 => ?_)
          · replace h := itn h c_9
            refine lv_sipush (v := 999) hx hb dX12_isSo_129 (by decide) ?_
            exact hb_132 (999 : Int32) (hI σ 40 21) σ H locs ls h hB (lv_sub hl [] rfl)
          · replace h := itp h c_9
            refine lv_bipush (v := 9) hx hb dX12_isSo_124 (by decide) ?_
            refine lv_goto (tgt := 132) hx hb dX12_isSo_126 (by decide) ?_
            exact hb_132 (9 : Int32) (hI σ 40 21) σ H locs ls h hB (lv_sub hl [] rfl)
        · replace h := itp h c_8
          refine lv_aload_n hx hb dX12_isSo_83 rfl (lv_at hl 0 rfl) ?_
          refine R_get (v := .int (hI σ 40 21)) hx hb ht ui_X12 hown hK hB (by decide) (cell_8 rfl) rfl 21 (by decide) (ht _ tw937) (fun _ h9 => h9) rfl dX12_isSo_84 ?_
          refine lv_aload_n hx hb dX12_isSo_87 rfl (lv_at hl 0 rfl) ?_
          refine R_get (v := .int (hI σ 40 0)) hx hb ht ui_X12 hown hK hB (by decide) (cell_8 rfl) rfl 0 (by decide) (ht _ tw916) (fun _ h9 => h9) rfl dX12_isSo_88 ?_
          refine lv_icmp_ge (tgt := 111) hx hb dX12_isSo_91 (by decide) (fun c_11 => ?_) (fun c_11 => ?_)
          · replace h := itp h c_11
            exact hb_111 σ H locs ls h hB (lv_sub hl [] rfl)
          · replace h := itn h c_11
            refine lv_aload_n hx hb dX12_isSo_94 rfl (lv_at hl 0 rfl) ?_
            refine R_get (v := .ref (gL g 46)) hx hb ht ui_X12 hown hK hB (by decide) (cell_8 rfl) rfl 6 (by decide) (ht _ tw922) (fun _ h9 => h9) rfl dX12_isSo_95 ?_
            refine lv_aload_n hx hb dX12_isSo_98 rfl (lv_at hl 0 rfl) ?_
            refine R_get (v := .int (hI σ 40 21)) hx hb ht ui_X12 hown hK hB (by decide) (cell_8 rfl) rfl 21 (by decide) (ht _ tw937) (fun _ h9 => h9) rfl dX12_isSo_99 ?_
            replace h := ck_eq h; obtain ⟨q_12, h⟩ := h
            refine R_iald hx hb hK hB rfl (inb_eq q_12) dX12_isSo_102 ?_
            refine lv_iconst (v := 5) hx hb dX12_isSo_103 (by decide) ?_
            refine lv_icmp_ne (tgt := 111) hx hb dX12_isSo_104 (by decide) (fun c_13 => ?_) (fun c_13 => ?_)
            · replace h := itn h c_13
              exact hb_111 σ H locs ls h hB (lv_sub hl [] rfl)
            · replace h := itp h c_13
              refine lv_iconst (v := 1) hx hb dX12_isSo_107 (by decide) ?_
              refine lv_goto (tgt := 140) hx hb dX12_isSo_108 (by decide) ?_
              obtain ⟨rfl, rfl⟩ := Prod.mk.inj (Option.some.inj h)
              exact W.zret hx hb hr rfl (R_end hB) hB.2.2.2.2 dX12_isSo_140
      · replace h := itn h c_7
        by_cases c_14 : a1 = 3
        · replace h := itp h c_14
          refine lv_tableIn (tgt := 141) hx hb dX12_isSo_1 (by rw [c_14]; decide) (by rw [c_14]; decide) (by rw [c_14]; rfl) (by decide) ?_
          refine lv_iconst (v := 1) hx hb dX12_isSo_141 (by decide) ?_
          obtain ⟨rfl, rfl⟩ := Prod.mk.inj (Option.some.inj h)
          exact W.zret hx hb hr rfl (R_end hB) hB.2.2.2.2 dX12_isSo_142
        · replace h := itn h c_14
          refine lv_tableOut (tgt := 143) hx hb dX12_isSo_1 (sw_out (lo := 0) (hi := 3) (by decide) (by decide) (fun k h1 h2 => by rcases (show k = 0 ∨ k = 1 ∨ k = 2 ∨ k = 3 by omega) with rfl | rfl | rfl | rfl <;> assumption)) (by decide) ?_
          refine lv_aload_n hx hb dX12_isSo_143 rfl (lv_at hl 0 rfl) ?_
          refine R_get (v := .int (hI σ 40 21)) hx hb ht ui_X12 hown hK hB (by decide) (cell_8 rfl) rfl 21 (by decide) (ht _ tw937) (fun _ h9 => h9) rfl dX12_isSo_144 ?_
          refine lv_aload_n hx hb dX12_isSo_147 rfl (lv_at hl 0 rfl) ?_
          refine R_get (v := .int (hI σ 40 0)) hx hb ht ui_X12 hown hK hB (by decide) (cell_8 rfl) rfl 0 (by decide) (ht _ tw916) (fun _ h9 => h9) rfl dX12_isSo_148 ?_
          refine lv_icmp_ge (tgt := 158) hx hb dX12_isSo_151 (by decide) (fun c_15 => ?_) (fun c_15 => ?_)
          · replace h := itp h c_15
            refine lv_iconst (v := 0) hx hb dX12_isSo_158 (by decide) ?_
            obtain ⟨rfl, rfl⟩ := Prod.mk.inj (Option.some.inj h)
            exact W.zret hx hb hr rfl (R_end hB) hB.2.2.2.2 dX12_isSo_159
          · replace h := itn h c_15
            refine lv_iconst (v := 1) hx hb dX12_isSo_154 (by decide) ?_
            refine lv_goto (tgt := 159) hx hb dX12_isSo_155 (by decide) ?_
            obtain ⟨rfl, rfl⟩ := Prod.mk.inj (Option.some.inj h)
            exact W.zret hx hb hr rfl (R_end hB) hB.2.2.2.2 dX12_isSo_159
def f_X12_writes (a1 : Int64) (σ : Hp) : Option (Int32 × Hp) := ck (inb (hI σ 40 1) 20 = true) (some ((hI (sI (sJ σ 49 (hI σ 40 1).toNatClampNeg a1) 40 1 ((hI (sJ σ 49 (hI σ 40 1).toNatClampNeg a1) 40 1) + (1 : Int32))) 40 1), (sI (sJ σ 49 (hI σ 40 1).toNatClampNeg a1) 40 1 ((hI (sJ σ 49 (hI σ 40 1).toNatClampNeg a1) 40 1) + (1 : Int32)))))
set_option maxHeartbeats 4000000 in
set_option maxRecDepth 100000 in
theorem c_X12_writes (l : Launch) (g : tG) (P : Nat → Nat) (σ : Hp) (a1 : Int64) (sz : Nat) {r : Int32} {τ : Hp} (h : f_X12_writes a1 σ = some (r, τ)) : Met l yX12_writes (Cond.code yX12_writes cX12_writes 3 (some .int) :: tblG) ({ frames := 0, cells := 0, slots := 0, locals := 0 }) (va_Pc [.ref (gL g 40), .long a1] (tPre g P σ sz)) (tQ (some (.int r)) (tPost g P τ (va_A (wC g P σ) sz)) (va_A (wC g P σ) sz)) 0 0 (va_A (wC g P σ) sz) := by
  refine T_start (B := fun A => tPost g P τ A) (by decide) (Nat.le_of_ble_eq_true rfl) ?_
  intro p e s m args below meth c ls0 A hx hb hml hr hown hlocks ht hnm hK hZ hA hB0 hl0
  suffices hmain : ∀ (H : Heap) (locs : List Loc) (ls : Array Slot), tB g P σ A s.heap H locs → lv_has ls 3 [(0, .ref (gL g 40)), (1, .long a1)] → WQ p l e { frames := 0, cells := 0, slots := 0, locals := 0 } s m args below meth c g P A (some (.int r)) τ H locs (F0 m 0 ls []) from hmain _ _ ls0 hB0 hl0
  intro H locs ls hB hl
  unfold f_X12_writes at h
  refine lv_aload_n hx hb dX12_writes_0 rfl (lv_at hl 0 rfl) ?_
  refine R_get (v := .ref (gL g 49)) hx hb ht ui_X12 hown hK hB (by decide) (cell_8 rfl) rfl 9 (by decide) (ht _ tw925) (fun _ h9 => h9) rfl dX12_writes_1 ?_
  refine lv_aload_n hx hb dX12_writes_4 rfl (lv_at hl 0 rfl) ?_
  refine R_get (v := .int (hI σ 40 1)) hx hb ht ui_X12 hown hK hB (by decide) (cell_8 rfl) rfl 1 (by decide) (ht _ tw917) (fun _ h9 => h9) rfl dX12_writes_5 ?_
  refine lv_lload_n hx hb dX12_writes_8 rfl (lv_at hl 1 rfl) ?_
  replace h := ck_eq h; obtain ⟨q_1, h⟩ := h
  refine R_last hx hb hK hB rfl (inb_eq q_1) dX12_writes_9 (fun H locs hB => ?_)
  refine lv_aload_n hx hb dX12_writes_10 rfl (lv_at hl 0 rfl) ?_
  refine lv_dup hx hb dX12_writes_11 rfl ?_
  refine R_get (v := .int (hI (sJ σ 49 (hI σ 40 1).toNatClampNeg a1) 40 1)) hx hb ht ui_X12 hown hK hB (by decide) (cell_8 rfl) rfl 1 (by decide) (ht _ tw917) (fun _ h9 => h9) rfl dX12_writes_12 ?_
  refine lv_iconst (v := 1) hx hb dX12_writes_15 (by decide) ?_
  refine lv_iadd hx hb dX12_writes_16 ?_
  refine R_putI (v := ((hI (sJ σ 49 (hI σ 40 1).toNatClampNeg a1) 40 1) + (1 : Int32))) (ty := .int) hx hb ht ui_X12 tyX12 tyX12_ok nmX12 hown hK hB (by decide) (cell_8 rfl) rfl 1 (by decide) (ht _ tw917) (fun _ h9 => h9) rfl (by decide +kernel) rfl rfl (Nat.le_of_ble_eq_true rfl) (st8_1 rfl) dX12_writes_17 (fun H locs hB => ?_)
  refine lv_aload_n hx hb dX12_writes_20 rfl (lv_at hl 0 rfl) ?_
  refine R_get (v := .int (hI (sI (sJ σ 49 (hI σ 40 1).toNatClampNeg a1) 40 1 ((hI (sJ σ 49 (hI σ 40 1).toNatClampNeg a1) 40 1) + (1 : Int32))) 40 1)) hx hb ht ui_X12 hown hK hB (by decide) (cell_8 rfl) rfl 1 (by decide) (ht _ tw917) (fun _ h9 => h9) rfl dX12_writes_21 ?_
  obtain ⟨rfl, rfl⟩ := Prod.mk.inj (Option.some.inj h)
  exact W.iret hx hb hr (R_end hB) hB.2.2.2.2 dX12_writes_24
def f_X12_item_b62 (σ1 : Hp) : Option (Int32 × Hp) := b2 (f_X12_wrong (hI σ1 40 19) σ1) (fun r_10 s_11 => ck (isB r_10 = true) (some (r_10, s_11)))
def f_X12_item_b167 (x1 : Int32) (x2 : Int32) (x3 : Int32) (x4 : Int32) (σ1 : Hp) : Option ((Int32 × Hp) ⊕ (Int32 × Hp)) := b2 (f_X12_number σ1) (fun r_57 s_58 => if r_57 = 0 then ex (some ((0 : Int32), s_58)) else b2 (f_X12_isSo x2 x4 s_58) (fun r_61 s_62 => if r_61 = 0 then ex (b2 (f_X12_wrong (hI σ1 40 19) s_62) (fun r_66 s_67 => ck (isB r_66 = true) (some (r_66, s_67)))) else ck (inb x4 3 = true) (some (.inl ((x4 + 1), (sI s_62 57 x4.toNatClampNeg (hI s_62 40 21)))))))
def f_X12_item_b148 (σ1 : Hp) : Option (Int32 × Hp) := b2 (f_X12_wrong (hI σ1 40 19) σ1) (fun r_71 s_72 => ck (isB r_71 = true) (some (r_71, s_72)))
def f_X12_item_t106 (x1 : Int32) (x2 : Int32) (x3 : Int32) (x4 : Int32) (σ1 : Hp) : Option ((Int32 × Hp) ⊕ (Int32 × Hp)) := if x3 ≤ x4 then ex (if x2 = 0 then ck (inb (0 : Int32) 3 = true) (some ((1 : Int32), (sI σ1 40 2 (hI σ1 57 (0 : Int32).toNatClampNeg)))) else (if x2 = 1 then ck (inb (0 : Int32) 3 = true) (ck (inb (1 : Int32) 3 = true) (b2 (f_X12_adds (hI σ1 57 (0 : Int32).toNatClampNeg) (hI σ1 57 (1 : Int32).toNatClampNeg) σ1) (fun r_30 s_31 => some ((1 : Int32), s_31)))) else (if x2 = 2 then ck (inb (0 : Int32) 3 = true) (ck (inb (1 : Int32) 3 = true) (ck (inb (2 : Int32) 3 = true) (ck (inb (((10 : Int32) * (hI σ1 57 (0 : Int32).toNatClampNeg)) + (hI σ1 57 (1 : Int32).toNatClampNeg)) 60 = true) (some ((1 : Int32), (sI σ1 48 (((10 : Int32) * (hI σ1 57 (0 : Int32).toNatClampNeg)) + (hI σ1 57 (1 : Int32).toNatClampNeg)).toNatClampNeg (hI σ1 57 (2 : Int32).toNatClampNeg))))))) else (if x2 = 3 then ck (inb (0 : Int32) 3 = true) (b2 (f_X12_writes ((hI σ1 57 (0 : Int32).toNatClampNeg).toInt64) σ1) (fun r_40 s_41 => some ((1 : Int32), s_41))) else (ck (inb (0 : Int32) 3 = true) (ck (inb ((hI σ1 40 1) - (1 : Int32)) 20 = true) (b2 (f_X12_nextOf (hI σ1 57 (0 : Int32).toNatClampNeg) (hJ σ1 49 ((hI σ1 40 1) - (1 : Int32)).toNatClampNeg) σ1) (fun r_45 s_46 => if (lg_cmp r_45 (-1 : Int64)) = 0 then b2 (f_X12_wrong x1 s_46) (fun r_52 s_53 => ck (isB r_52 = true) (some (r_52, s_53))) else b2 (f_X12_writes r_45 s_46) (fun r_49 s_50 => some ((1 : Int32), s_50)))))))))) else if x4 ≤ 0 then f_X12_item_b167 x1 x2 x3 x4 σ1 else if (hI σ1 40 20) ≤ (hI σ1 40 19) then ex (f_X12_item_b148 σ1) else ck (inb ((hI σ1 40 18) + (hI σ1 40 19)) 1280 = true) (if ((hJ σ1 54 ((hI σ1 40 18) + (hI σ1 40 19)).toNatClampNeg).toInt32) = (32 : Int32) then f_X12_item_b167 x1 x2 x3 x4 (sI σ1 40 19 ((hI σ1 40 19) + (1 : Int32))) else ex (f_X12_item_b148 σ1))
def f_X12_item_s106 (x1 : Int32) (x2 : Int32) (x3 : Int32) (v : (Int32 × Hp)) : Option ((Int32 × Hp) ⊕ (Int32 × Hp)) := f_X12_item_t106 x1 x2 x3 v.1 v.2
def f_X12_item_b102 (x1 : Int32) (x2 : Int32) (xt0 : Int32) (σ1 : Hp) : Option (Int32 × Hp) := iter (f_X12_item_s106 x1 x2 xt0) fuel ((0 : Int32), σ1)
def f_X12_item_b71 (x1 : Int32) (σ1 : Hp) : Option (Int32 × Hp) := b2 (f_X12_word σ1) (fun r_18 s_19 => if r_18 = (-1 : Int32) then some ((0 : Int32), s_19) else if r_18 = (1 : Int32) then f_X12_item_b102 x1 r_18 (2 : Int32) s_19 else if r_18 = (2 : Int32) then f_X12_item_b102 x1 r_18 (3 : Int32) s_19 else f_X12_item_b102 x1 r_18 (1 : Int32) s_19)
def f_X12_item_b47 (x1 : Int32) (σ1 : Hp) : Option (Int32 × Hp) := b2 (f_X12_isWordAt (4 : Int32) σ1) (fun r_14 s_15 => if r_14 = 0 then f_X12_item_b71 x1 s_15 else if (hI s_15 40 1) = 0 then f_X12_item_b62 s_15 else f_X12_item_b71 x1 s_15)
def f_X12_item_b38 (x1 : Int32) (σ1 : Hp) : Option (Int32 × Hp) := if (hI σ1 40 1) = (20 : Int32) then f_X12_item_b62 σ1 else f_X12_item_b47 x1 σ1
def f_X12_item_b22 (x1 : Int32) (σ1 : Hp) : Option (Int32 × Hp) := b2 (f_X12_isWordAt (3 : Int32) σ1) (fun r_5 s_6 => if r_5 = 0 then b2 (f_X12_isWordAt (4 : Int32) s_6) (fun r_78 s_79 => if r_78 = 0 then f_X12_item_b47 x1 s_79 else f_X12_item_b38 x1 s_79) else f_X12_item_b38 x1 s_6)
def f_X12_item (σ : Hp) : Option (Int32 × Hp) := b2 (f_X12_isWordAt (1 : Int32) σ) (fun r_1 s_2 => if r_1 = 0 then f_X12_item_b22 (hI σ 40 19) s_2 else if (hI s_2 40 0) = (6 : Int32) then f_X12_item_b62 s_2 else f_X12_item_b22 (hI σ 40 19) s_2)
set_option maxHeartbeats 4000000 in
set_option maxRecDepth 100000 in
theorem c_X12_item (l : Launch) (g : tG) (P : Nat → Nat) (σ : Hp) (sz : Nat) {r : Int32} {τ : Hp} (h : f_X12_item σ = some (r, τ)) : Met l yX12_item (Cond.code yX12_item cX12_item 6 (some .boolean) :: tblG) ({ frames := 3, cells := 0, slots := 0, locals := 82 }) (va_Pc [.ref (gL g 40)] (tPre g P σ sz)) (tQ (some (.int r)) (tPost g P τ (va_A (wC g P σ) sz)) (va_A (wC g P σ) sz)) 0 0 (va_A (wC g P σ) sz) := by
  refine T_start (B := fun A => tPost g P τ A) (by decide) (Nat.le_of_ble_eq_true rfl) ?_
  intro p e s m args below meth c ls0 A hx hb hml hr hown hlocks ht hnm hK hZ hA hB0 hl0
  have hb_62 : ∀ (σ1 : Hp) (H : Heap) (locs : List Loc) (ls : Array Slot), f_X12_item_b62 σ1 = some (r, τ) → tB g P σ1 A s.heap H locs → lv_has ls 6 [(0, .ref (gL g 40))] → WQ p l e { frames := 3, cells := 0, slots := 0, locals := 82 } s m args below meth c g P A (some (.int r)) τ H locs (F0 m 62 ls []) := by
    intro σ1 H locs ls h hB hl
    unfold f_X12_item_b62 at h
    refine lv_aload_n hx hb dX12_item_62 rfl (lv_at hl 0 rfl) ?_
    refine lv_aload_n hx hb dX12_item_63 rfl (lv_at hl 0 rfl) ?_
    refine R_get (v := .int (hI σ1 40 19)) hx hb ht ui_X12 hown hK hB (by decide) (cell_8 rfl) rfl 19 (by decide) (ht _ tw935) (fun _ h9 => h9) rfl dX12_item_64 ?_
    replace h := b2_eq h; obtain ⟨r_10, s_11, hc_12, h⟩ := h
    refine R_call (rest := []) [.int r_10] (R_runV (n := 1) (As := [.int (hI σ1 40 19)]) ⟨hx, hb, hml, hown, ht⟩ (fun _ h9 => h9) hK hZ hA hB (c_X12_wrong l g P σ1 (hI σ1 40 19) H.size hc_12) (R_recv hK hB (by decide) (cell_8 rfl) rfl) tw1145 tw1142 tw1144 pw39 tw5 ⟨by decide, by decide, by decide⟩ rfl rfl ⟨Nat.le_of_ble_eq_true rfl, Nat.le_of_ble_eq_true rfl⟩ rfl hl.1 rfl (Nat.le_of_ble_eq_true rfl) dX12_item_67 ⟨Nat.zero_le _, Nat.zero_le _⟩) hB hA rfl (fun H locs hB => ?_)
    replace h := ck_eq h; obtain ⟨q_13, h⟩ := h
    obtain ⟨rfl, rfl⟩ := Prod.mk.inj (Option.some.inj h)
    exact W.zret hx hb hr (isB_eq q_13) (R_end hB) hB.2.2.2.2 dX12_item_70
  have hb_148 : ∀ (σ1 : Hp) (H : Heap) (locs : List Loc) (ls : Array Slot), f_X12_item_b148 σ1 = some (r, τ) → tB g P σ1 A s.heap H locs → lv_has ls 6 [(0, .ref (gL g 40))] → WQ p l e { frames := 3, cells := 0, slots := 0, locals := 82 } s m args below meth c g P A (some (.int r)) τ H locs (F0 m 148 ls []) := by
    intro σ1 H locs ls h hB hl
    unfold f_X12_item_b148 at h
    refine lv_aload_n hx hb dX12_item_148 rfl (lv_at hl 0 rfl) ?_
    refine lv_aload_n hx hb dX12_item_149 rfl (lv_at hl 0 rfl) ?_
    refine R_get (v := .int (hI σ1 40 19)) hx hb ht ui_X12 hown hK hB (by decide) (cell_8 rfl) rfl 19 (by decide) (ht _ tw935) (fun _ h9 => h9) rfl dX12_item_150 ?_
    replace h := b2_eq h; obtain ⟨r_71, s_72, hc_73, h⟩ := h
    refine R_call (rest := []) [.int r_71] (R_runV (n := 1) (As := [.int (hI σ1 40 19)]) ⟨hx, hb, hml, hown, ht⟩ (fun _ h9 => h9) hK hZ hA hB (c_X12_wrong l g P σ1 (hI σ1 40 19) H.size hc_73) (R_recv hK hB (by decide) (cell_8 rfl) rfl) tw1145 tw1142 tw1144 pw39 tw5 ⟨by decide, by decide, by decide⟩ rfl rfl ⟨Nat.le_of_ble_eq_true rfl, Nat.le_of_ble_eq_true rfl⟩ rfl hl.1 rfl (Nat.le_of_ble_eq_true rfl) dX12_item_153 ⟨Nat.zero_le _, Nat.zero_le _⟩) hB hA rfl (fun H locs hB => ?_)
    replace h := ck_eq h; obtain ⟨q_74, h⟩ := h
    obtain ⟨rfl, rfl⟩ := Prod.mk.inj (Option.some.inj h)
    exact W.zret hx hb hr (isB_eq q_74) (R_end hB) hB.2.2.2.2 dX12_item_156
  have hL_106 : ∀ (x1 : Int32) (x2 : Int32) (x3 : Int32) (n : Nat) (x4 : Int32) (σ1 : Hp) (H : Heap) (locs : List Loc) (ls : Array Slot), iter (f_X12_item_s106 x1 x2 x3) n (x4, σ1) = some (r, τ) → tB g P σ1 A s.heap H locs → lv_has ls 6 [(0, .ref (gL g 40)), (1, .int x1), (2, .int x2), (3, .int x3), (4, .int x4)] → WQ p l e { frames := 3, cells := 0, slots := 0, locals := 82 } s m args below meth c g P A (some (.int r)) τ H locs (F0 m 106 ls []) := by
    intro x1 x2 x3 n
    induction n with
    | zero =>
      intro x4 σ1 H locs ls h hB hl
      exact (iter_0 h).elim
    | succ n ih1 =>
      intro x4 σ1 H locs ls h hB hl
      replace h := iter_eq h; obtain ⟨z1, hh1, hx1⟩ := h
      have hb_167 : ∀ (x4 : Int32) (σ1 : Hp) (H : Heap) (locs : List Loc) (ls : Array Slot), f_X12_item_b167 x1 x2 x3 x4 σ1 = some z1 → tB g P σ1 A s.heap H locs → lv_has ls 6 [(0, .ref (gL g 40)), (1, .int x1), (2, .int x2), (3, .int x3), (4, .int x4)] → WQ p l e { frames := 3, cells := 0, slots := 0, locals := 82 } s m args below meth c g P A (some (.int r)) τ H locs (F0 m 167 ls []) := by
        intro x4 σ1 H locs ls h hB hl
        unfold f_X12_item_b167 at h
        refine lv_aload_n hx hb dX12_item_167 rfl (lv_at hl 0 rfl) ?_
        refine R_get (v := .int (hI σ1 40 19)) hx hb ht ui_X12 hown hK hB (by decide) (cell_8 rfl) rfl 19 (by decide) (ht _ tw935) (fun _ h9 => h9) rfl dX12_item_168 ?_
        refine lv_istore (lv' := [(5, .int (hI σ1 40 19)), (0, .ref (gL g 40)), (1, .int x1), (2, .int x2), (3, .int x3), (4, .int x4)]) hx hb dX12_item_171 hl (by decide) rfl (fun ls hl => ?_)
        refine lv_aload_n hx hb dX12_item_173 rfl (lv_at hl 1 rfl) ?_
        replace h := b2_eq h; obtain ⟨r_57, s_58, hc_59, h⟩ := h
        refine R_call (rest := []) [.int r_57] (R_runV (n := 0) (As := []) ⟨hx, hb, hml, hown, ht⟩ (fun _ h9 => h9) hK hZ hA hB (c_X12_number l g P σ1 H.size hc_59) (R_recv hK hB (by decide) (cell_8 rfl) rfl) tw1153 tw1150 tw1152 pw41 tw5 ⟨by decide, by decide, by decide⟩ rfl rfl ⟨Nat.le_of_ble_eq_true rfl, Nat.le_of_ble_eq_true rfl⟩ rfl hl.1 rfl (Nat.le_of_ble_eq_true rfl) dX12_item_174 ⟨Nat.zero_le _, Nat.zero_le _⟩) hB hA rfl (fun H locs hB => ?_)
        refine lv_if_ne (tgt := 182) hx hb dX12_item_177 (by decide) (fun c_60 => ?_) (fun c_60 => ?_)
        · replace h := itn h c_60
          refine lv_aload_n hx hb dX12_item_182 rfl (lv_at hl 1 rfl) ?_
          refine lv_iload_n hx hb dX12_item_183 rfl (lv_at hl 3 rfl) ?_
          refine lv_iload hx hb dX12_item_184 (lv_at hl 5 rfl) ?_
          replace h := b2_eq h; obtain ⟨r_61, s_62, hc_63, h⟩ := h
          refine R_call (rest := []) [.int r_61] (R_runV (n := 2) (As := [.int x2, .int x4]) ⟨hx, hb, hml, hown, ht⟩ (fun _ h9 => h9) hK hZ hA hB (c_X12_isSo l g P s_58 x2 x4 H.size hc_63) (R_recv hK hB (by decide) (cell_8 rfl) rfl) tw1161 tw1158 tw1160 pw43 tw5 ⟨by decide, by decide, by decide⟩ rfl rfl ⟨Nat.le_of_ble_eq_true rfl, Nat.le_of_ble_eq_true rfl⟩ rfl hl.1 rfl (Nat.le_of_ble_eq_true rfl) dX12_item_186 ⟨Nat.zero_le _, Nat.zero_le _⟩) hB hA rfl (fun H locs hB => ?_)
          refine lv_if_ne (tgt := 199) hx hb dX12_item_189 (by decide) (fun c_64 => ?_) (fun c_64 => ?_)
          · replace h := itn h c_64
            refine lv_aload_n hx hb dX12_item_199 rfl (lv_at hl 1 rfl) ?_
            refine R_get (v := .ref (gL g 57)) hx hb ht ui_X12 hown hK hB (by decide) (cell_8 rfl) rfl 17 (by decide) (ht _ tw933) (fun _ h9 => h9) rfl dX12_item_200 ?_
            refine lv_iload hx hb dX12_item_203 (lv_at hl 5 rfl) ?_
            refine lv_aload_n hx hb dX12_item_205 rfl (lv_at hl 1 rfl) ?_
            refine R_get (v := .int (hI s_62 40 21)) hx hb ht ui_X12 hown hK hB (by decide) (cell_8 rfl) rfl 21 (by decide) (ht _ tw937) (fun _ h9 => h9) rfl dX12_item_206 ?_
            replace h := ck_eq h; obtain ⟨q_65, h⟩ := h
            refine R_iast hx hb hK hB rfl (inb_eq q_65) dX12_item_209 (fun H locs hB => ?_)
            refine lv_iinc (v := x4 + 1) (lv' := [(4, .int (x4 + 1)), (5, .int (hI σ1 40 19)), (0, .ref (gL g 40)), (1, .int x1), (2, .int x2), (3, .int x3)]) hx hb dX12_item_210 hl (k := 5) rfl rfl (by decide) rfl (fun ls hl => ?_)
            refine lv_goto (tgt := 106) hx hb dX12_item_213 (by decide) ?_
            obtain rfl := Option.some.inj h
            exact ih1 (x4 + 1) (sI s_62 57 x4.toNatClampNeg (hI s_62 40 21)) H locs ls hx1 hB (lv_sub hl [2, 3, 4, 5, 0] rfl)
          · replace h := itp h c_64
            replace h := ex_eq h; obtain ⟨b1, h, hz1⟩ := h
            subst hz1
            have hz1 := (itk_inr hx1).symm
            subst hz1
            refine lv_aload_n hx hb dX12_item_192 rfl (lv_at hl 1 rfl) ?_
            refine lv_iload hx hb dX12_item_193 (lv_at hl 0 rfl) ?_
            replace h := b2_eq h; obtain ⟨r_66, s_67, hc_68, h⟩ := h
            refine R_call (rest := []) [.int r_66] (R_runV (n := 1) (As := [.int (hI σ1 40 19)]) ⟨hx, hb, hml, hown, ht⟩ (fun _ h9 => h9) hK hZ hA hB (c_X12_wrong l g P s_62 (hI σ1 40 19) H.size hc_68) (R_recv hK hB (by decide) (cell_8 rfl) rfl) tw1145 tw1142 tw1144 pw39 tw5 ⟨by decide, by decide, by decide⟩ rfl rfl ⟨Nat.le_of_ble_eq_true rfl, Nat.le_of_ble_eq_true rfl⟩ rfl hl.1 rfl (Nat.le_of_ble_eq_true rfl) dX12_item_195 ⟨Nat.zero_le _, Nat.zero_le _⟩) hB hA rfl (fun H locs hB => ?_)
            replace h := ck_eq h; obtain ⟨q_69, h⟩ := h
            obtain ⟨rfl, rfl⟩ := Prod.mk.inj (Option.some.inj h)
            exact W.zret hx hb hr (isB_eq q_69) (R_end hB) hB.2.2.2.2 dX12_item_198
        · replace h := itp h c_60
          replace h := ex_eq h; obtain ⟨b1, h, hz1⟩ := h
          subst hz1
          have hz1 := (itk_inr hx1).symm
          subst hz1
          refine lv_iconst (v := 0) hx hb dX12_item_180 (by decide) ?_
          obtain ⟨rfl, rfl⟩ := Prod.mk.inj (Option.some.inj h)
          exact W.zret hx hb hr rfl (R_end hB) hB.2.2.2.2 dX12_item_181
      have h : f_X12_item_t106 x1 x2 x3 x4 σ1 = some z1 := hh1
      clear hh1
      unfold f_X12_item_t106 at h
      refine lv_iload hx hb dX12_item_106 (lv_at hl 4 rfl) ?_
      refine lv_iload_n hx hb dX12_item_108 rfl (lv_at hl 3 rfl) ?_
      refine lv_icmp_ge (tgt := 216) hx hb dX12_item_109 (by decide) (fun c_24 => ?_) (fun c_24 => ?_)
      · replace h := itp h c_24
        replace h := ex_eq h; obtain ⟨b1, h, hz1⟩ := h
        subst hz1
        have hz1 := (itk_inr hx1).symm
        subst hz1
        refine lv_iload_n hx hb dX12_item_216 rfl (lv_at hl 2 rfl) ?_
        by_cases c_25 : x2 = 0
        · replace h := itp h c_25
          refine lv_tableIn (tgt := 248) hx hb dX12_item_217 (by rw [c_25]; decide) (by rw [c_25]; decide) (by rw [c_25]; rfl) (by decide) ?_
          refine lv_aload_n hx hb dX12_item_248 rfl (lv_at hl 0 rfl) ?_
          refine lv_aload_n hx hb dX12_item_249 rfl (lv_at hl 0 rfl) ?_
          refine R_get (v := .ref (gL g 57)) hx hb ht ui_X12 hown hK hB (by decide) (cell_8 rfl) rfl 17 (by decide) (ht _ tw933) (fun _ h9 => h9) rfl dX12_item_250 ?_
          refine lv_iconst (v := 0) hx hb dX12_item_253 (by decide) ?_
          replace h := ck_eq h; obtain ⟨q_26, h⟩ := h
          refine R_iald hx hb hK hB rfl (inb_eq q_26) dX12_item_254 ?_
          refine R_putI (v := (hI σ1 57 (0 : Int32).toNatClampNeg)) (ty := .int) hx hb ht ui_X12 tyX12 tyX12_ok nmX12 hown hK hB (by decide) (cell_8 rfl) rfl 2 (by decide) (ht _ tw918) (fun _ h9 => h9) rfl (by decide +kernel) rfl rfl (Nat.le_of_ble_eq_true rfl) (st8_2 rfl) dX12_item_255 (fun H locs hB => ?_)
          refine lv_goto (tgt := 371) hx hb dX12_item_258 (by decide) ?_
          refine lv_iconst (v := 1) hx hb dX12_item_371 (by decide) ?_
          obtain ⟨rfl, rfl⟩ := Prod.mk.inj (Option.some.inj h)
          exact W.zret hx hb hr rfl (R_end hB) hB.2.2.2.2 dX12_item_372
        · replace h := itn h c_25
          by_cases c_27 : x2 = 1
          · replace h := itp h c_27
            refine lv_tableIn (tgt := 261) hx hb dX12_item_217 (by rw [c_27]; decide) (by rw [c_27]; decide) (by rw [c_27]; rfl) (by decide) ?_
            refine lv_aload_n hx hb dX12_item_261 rfl (lv_at hl 0 rfl) ?_
            refine lv_aload_n hx hb dX12_item_262 rfl (lv_at hl 0 rfl) ?_
            refine R_get (v := .ref (gL g 57)) hx hb ht ui_X12 hown hK hB (by decide) (cell_8 rfl) rfl 17 (by decide) (ht _ tw933) (fun _ h9 => h9) rfl dX12_item_263 ?_
            refine lv_iconst (v := 0) hx hb dX12_item_266 (by decide) ?_
            replace h := ck_eq h; obtain ⟨q_28, h⟩ := h
            refine R_iald hx hb hK hB rfl (inb_eq q_28) dX12_item_267 ?_
            refine lv_aload_n hx hb dX12_item_268 rfl (lv_at hl 0 rfl) ?_
            refine R_get (v := .ref (gL g 57)) hx hb ht ui_X12 hown hK hB (by decide) (cell_8 rfl) rfl 17 (by decide) (ht _ tw933) (fun _ h9 => h9) rfl dX12_item_269 ?_
            refine lv_iconst (v := 1) hx hb dX12_item_272 (by decide) ?_
            replace h := ck_eq h; obtain ⟨q_29, h⟩ := h
            refine R_iald hx hb hK hB rfl (inb_eq q_29) dX12_item_273 ?_
            replace h := b2_eq h; obtain ⟨r_30, s_31, hc_32, h⟩ := h
            refine R_call (rest := []) [.int r_30] (R_runV (n := 2) (As := [.int (hI σ1 57 (0 : Int32).toNatClampNeg), .int (hI σ1 57 (1 : Int32).toNatClampNeg)]) ⟨hx, hb, hml, hown, ht⟩ (fun _ h9 => h9) hK hZ hA hB (c_X12_adds l g P σ1 (hI σ1 57 (0 : Int32).toNatClampNeg) (hI σ1 57 (1 : Int32).toNatClampNeg) H.size hc_32) (R_recv hK hB (by decide) (cell_8 rfl) rfl) tw1109 tw1106 tw1108 pw33 tw5 ⟨by decide, by decide, by decide⟩ rfl rfl ⟨Nat.le_of_ble_eq_true rfl, Nat.le_of_ble_eq_true rfl⟩ rfl hl.1 rfl (Nat.le_of_ble_eq_true rfl) dX12_item_274 ⟨Nat.zero_le _, Nat.zero_le _⟩) hB hA rfl (fun H locs hB => ?_)
            refine lv_pop hx hb dX12_item_277 rfl ?_
            refine lv_goto (tgt := 371) hx hb dX12_item_278 (by decide) ?_
            refine lv_iconst (v := 1) hx hb dX12_item_371 (by decide) ?_
            obtain ⟨rfl, rfl⟩ := Prod.mk.inj (Option.some.inj h)
            exact W.zret hx hb hr rfl (R_end hB) hB.2.2.2.2 dX12_item_372
          · replace h := itn h c_27
            by_cases c_33 : x2 = 2
            · replace h := itp h c_33
              refine lv_tableIn (tgt := 281) hx hb dX12_item_217 (by rw [c_33]; decide) (by rw [c_33]; decide) (by rw [c_33]; rfl) (by decide) ?_
              refine lv_aload_n hx hb dX12_item_281 rfl (lv_at hl 0 rfl) ?_
              refine R_get (v := .ref (gL g 48)) hx hb ht ui_X12 hown hK hB (by decide) (cell_8 rfl) rfl 8 (by decide) (ht _ tw924) (fun _ h9 => h9) rfl dX12_item_282 ?_
              refine lv_bipush (v := 10) hx hb dX12_item_285 (by decide) ?_
              refine lv_aload_n hx hb dX12_item_287 rfl (lv_at hl 0 rfl) ?_
              refine R_get (v := .ref (gL g 57)) hx hb ht ui_X12 hown hK hB (by decide) (cell_8 rfl) rfl 17 (by decide) (ht _ tw933) (fun _ h9 => h9) rfl dX12_item_288 ?_
              refine lv_iconst (v := 0) hx hb dX12_item_291 (by decide) ?_
              replace h := ck_eq h; obtain ⟨q_34, h⟩ := h
              refine R_iald hx hb hK hB rfl (inb_eq q_34) dX12_item_292 ?_
              refine lv_imul hx hb dX12_item_293 ?_
              refine lv_aload_n hx hb dX12_item_294 rfl (lv_at hl 0 rfl) ?_
              refine R_get (v := .ref (gL g 57)) hx hb ht ui_X12 hown hK hB (by decide) (cell_8 rfl) rfl 17 (by decide) (ht _ tw933) (fun _ h9 => h9) rfl dX12_item_295 ?_
              refine lv_iconst (v := 1) hx hb dX12_item_298 (by decide) ?_
              replace h := ck_eq h; obtain ⟨q_35, h⟩ := h
              refine R_iald hx hb hK hB rfl (inb_eq q_35) dX12_item_299 ?_
              refine lv_iadd hx hb dX12_item_300 ?_
              refine lv_aload_n hx hb dX12_item_301 rfl (lv_at hl 0 rfl) ?_
              refine R_get (v := .ref (gL g 57)) hx hb ht ui_X12 hown hK hB (by decide) (cell_8 rfl) rfl 17 (by decide) (ht _ tw933) (fun _ h9 => h9) rfl dX12_item_302 ?_
              refine lv_iconst (v := 2) hx hb dX12_item_305 (by decide) ?_
              replace h := ck_eq h; obtain ⟨q_36, h⟩ := h
              refine R_iald hx hb hK hB rfl (inb_eq q_36) dX12_item_306 ?_
              replace h := ck_eq h; obtain ⟨q_37, h⟩ := h
              refine R_iast hx hb hK hB rfl (inb_eq q_37) dX12_item_307 (fun H locs hB => ?_)
              refine lv_goto (tgt := 371) hx hb dX12_item_308 (by decide) ?_
              refine lv_iconst (v := 1) hx hb dX12_item_371 (by decide) ?_
              obtain ⟨rfl, rfl⟩ := Prod.mk.inj (Option.some.inj h)
              exact W.zret hx hb hr rfl (R_end hB) hB.2.2.2.2 dX12_item_372
            · replace h := itn h c_33
              by_cases c_38 : x2 = 3
              · replace h := itp h c_38
                refine lv_tableIn (tgt := 311) hx hb dX12_item_217 (by rw [c_38]; decide) (by rw [c_38]; decide) (by rw [c_38]; rfl) (by decide) ?_
                refine lv_aload_n hx hb dX12_item_311 rfl (lv_at hl 0 rfl) ?_
                refine lv_aload_n hx hb dX12_item_312 rfl (lv_at hl 0 rfl) ?_
                refine R_get (v := .ref (gL g 57)) hx hb ht ui_X12 hown hK hB (by decide) (cell_8 rfl) rfl 17 (by decide) (ht _ tw933) (fun _ h9 => h9) rfl dX12_item_313 ?_
                refine lv_iconst (v := 0) hx hb dX12_item_316 (by decide) ?_
                replace h := ck_eq h; obtain ⟨q_39, h⟩ := h
                refine R_iald hx hb hK hB rfl (inb_eq q_39) dX12_item_317 ?_
                refine lv_i2l (v := (hI σ1 57 (0 : Int32).toNatClampNeg).toInt64) hx hb dX12_item_318 rfl ?_
                replace h := b2_eq h; obtain ⟨r_40, s_41, hc_42, h⟩ := h
                refine R_call (rest := []) [.int r_40] (R_runV (n := 1) (As := [.long ((hI σ1 57 (0 : Int32).toNatClampNeg).toInt64)]) ⟨hx, hb, hml, hown, ht⟩ (fun _ h9 => h9) hK hZ hA hB (c_X12_writes l g P σ1 ((hI σ1 57 (0 : Int32).toNatClampNeg).toInt64) H.size hc_42) (R_recv hK hB (by decide) (cell_8 rfl) rfl) tw1165 tw1162 tw1164 pw44 tw5 ⟨by decide, by decide, by decide⟩ rfl rfl ⟨Nat.le_of_ble_eq_true rfl, Nat.le_of_ble_eq_true rfl⟩ rfl hl.1 rfl (Nat.le_of_ble_eq_true rfl) dX12_item_319 ⟨Nat.zero_le _, Nat.zero_le _⟩) hB hA rfl (fun H locs hB => ?_)
                refine lv_pop hx hb dX12_item_322 rfl ?_
                refine lv_goto (tgt := 371) hx hb dX12_item_323 (by decide) ?_
                refine lv_iconst (v := 1) hx hb dX12_item_371 (by decide) ?_
                obtain ⟨rfl, rfl⟩ := Prod.mk.inj (Option.some.inj h)
                exact W.zret hx hb hr rfl (R_end hB) hB.2.2.2.2 dX12_item_372
              · replace h := itn h c_38
                refine lv_tableOut (tgt := 326) hx hb dX12_item_217 (sw_out (lo := 0) (hi := 3) (by decide) (by decide) (fun k h1 h2 => by rcases (show k = 0 ∨ k = 1 ∨ k = 2 ∨ k = 3 by omega) with rfl | rfl | rfl | rfl <;> assumption)) (by decide) ?_
                refine lv_aload_n hx hb dX12_item_326 rfl (lv_at hl 0 rfl) ?_
                refine lv_aload_n hx hb dX12_item_327 rfl (lv_at hl 0 rfl) ?_
                refine R_get (v := .ref (gL g 57)) hx hb ht ui_X12 hown hK hB (by decide) (cell_8 rfl) rfl 17 (by decide) (ht _ tw933) (fun _ h9 => h9) rfl dX12_item_328 ?_
                refine lv_iconst (v := 0) hx hb dX12_item_331 (by decide) ?_
                replace h := ck_eq h; obtain ⟨q_43, h⟩ := h
                refine R_iald hx hb hK hB rfl (inb_eq q_43) dX12_item_332 ?_
                refine lv_aload_n hx hb dX12_item_333 rfl (lv_at hl 0 rfl) ?_
                refine R_get (v := .ref (gL g 49)) hx hb ht ui_X12 hown hK hB (by decide) (cell_8 rfl) rfl 9 (by decide) (ht _ tw925) (fun _ h9 => h9) rfl dX12_item_334 ?_
                refine lv_aload_n hx hb dX12_item_337 rfl (lv_at hl 0 rfl) ?_
                refine R_get (v := .int (hI σ1 40 1)) hx hb ht ui_X12 hown hK hB (by decide) (cell_8 rfl) rfl 1 (by decide) (ht _ tw917) (fun _ h9 => h9) rfl dX12_item_338 ?_
                refine lv_iconst (v := 1) hx hb dX12_item_341 (by decide) ?_
                refine lv_isub hx hb dX12_item_342 ?_
                replace h := ck_eq h; obtain ⟨q_44, h⟩ := h
                refine R_lald hx hb hK hB rfl (inb_eq q_44) dX12_item_343 ?_
                replace h := b2_eq h; obtain ⟨r_45, s_46, hc_47, h⟩ := h
                refine R_call (rest := []) [.long r_45] (R_runV (n := 2) (As := [.int (hI σ1 57 (0 : Int32).toNatClampNeg), .long (hJ σ1 49 ((hI σ1 40 1) - (1 : Int32)).toNatClampNeg)]) ⟨hx, hb, hml, hown, ht⟩ (fun _ h9 => h9) hK hZ hA hB (c_X12_nextOf l g P σ1 (hI σ1 57 (0 : Int32).toNatClampNeg) (hJ σ1 49 ((hI σ1 40 1) - (1 : Int32)).toNatClampNeg) H.size hc_47) (R_recv hK hB (by decide) (cell_8 rfl) rfl) tw1075 tw1072 tw1074 pw28 tw5 ⟨by decide, by decide, by decide⟩ rfl rfl ⟨Nat.le_of_ble_eq_true rfl, Nat.le_of_ble_eq_true rfl⟩ rfl hl.1 rfl (Nat.le_of_ble_eq_true rfl) dX12_item_344 ⟨Nat.zero_le _, Nat.zero_le _⟩) hB hA rfl (fun H locs hB => ?_)
                refine lv_lstore (lv' := [(4, .long r_45), (0, .ref (gL g 40)), (1, .int x1), (2, .int x2), (3, .int x3)]) hx hb dX12_item_347 hl (by decide) rfl (fun ls hl => ?_)
                refine lv_lload hx hb dX12_item_349 (lv_at hl 0 rfl) ?_
                refine lv_ldc2 (v := -1) hx hb hown (ht _ tw1089) dX12_item_351 ?_
                refine W.lcmp hx hb dX12_item_354 ?_
                refine lv_if_ne (tgt := 364) hx hb dX12_item_355 (by decide) (fun c_48 => ?_) (fun c_48 => ?_)
                · replace h := itn h c_48
                  refine lv_aload_n hx hb dX12_item_364 rfl (lv_at hl 1 rfl) ?_
                  refine lv_lload hx hb dX12_item_365 (lv_at hl 0 rfl) ?_
                  replace h := b2_eq h; obtain ⟨r_49, s_50, hc_51, h⟩ := h
                  refine R_call (rest := []) [.int r_49] (R_runV (n := 1) (As := [.long r_45]) ⟨hx, hb, hml, hown, ht⟩ (fun _ h9 => h9) hK hZ hA hB (c_X12_writes l g P s_46 r_45 H.size hc_51) (R_recv hK hB (by decide) (cell_8 rfl) rfl) tw1165 tw1162 tw1164 pw44 tw5 ⟨by decide, by decide, by decide⟩ rfl rfl ⟨Nat.le_of_ble_eq_true rfl, Nat.le_of_ble_eq_true rfl⟩ rfl hl.1 rfl (Nat.le_of_ble_eq_true rfl) dX12_item_367 ⟨Nat.zero_le _, Nat.zero_le _⟩) hB hA rfl (fun H locs hB => ?_)
                  refine lv_pop hx hb dX12_item_370 rfl ?_
                  refine lv_iconst (v := 1) hx hb dX12_item_371 (by decide) ?_
                  obtain ⟨rfl, rfl⟩ := Prod.mk.inj (Option.some.inj h)
                  exact W.zret hx hb hr rfl (R_end hB) hB.2.2.2.2 dX12_item_372
                · replace h := itp h c_48
                  refine lv_aload_n hx hb dX12_item_358 rfl (lv_at hl 1 rfl) ?_
                  refine lv_iload_n hx hb dX12_item_359 rfl (lv_at hl 2 rfl) ?_
                  replace h := b2_eq h; obtain ⟨r_52, s_53, hc_54, h⟩ := h
                  refine R_call (rest := []) [.int r_52] (R_runV (n := 1) (As := [.int x1]) ⟨hx, hb, hml, hown, ht⟩ (fun _ h9 => h9) hK hZ hA hB (c_X12_wrong l g P s_46 x1 H.size hc_54) (R_recv hK hB (by decide) (cell_8 rfl) rfl) tw1145 tw1142 tw1144 pw39 tw5 ⟨by decide, by decide, by decide⟩ rfl rfl ⟨Nat.le_of_ble_eq_true rfl, Nat.le_of_ble_eq_true rfl⟩ rfl hl.1 rfl (Nat.le_of_ble_eq_true rfl) dX12_item_360 ⟨Nat.zero_le _, Nat.zero_le _⟩) hB hA rfl (fun H locs hB => ?_)
                  replace h := ck_eq h; obtain ⟨q_55, h⟩ := h
                  obtain ⟨rfl, rfl⟩ := Prod.mk.inj (Option.some.inj h)
                  exact W.zret hx hb hr (isB_eq q_55) (R_end hB) hB.2.2.2.2 dX12_item_363
      · replace h := itn h c_24
        refine lv_iload hx hb dX12_item_112 (lv_at hl 4 rfl) ?_
        refine lv_if_le (tgt := 167) hx hb dX12_item_114 (by decide) (fun c_56 => ?_) (fun c_56 => ?_)
        · replace h := itp h c_56
          exact hb_167 x4 σ1 H locs ls h hB (lv_sub hl [0, 1, 2, 3, 4] rfl)
        · replace h := itn h c_56
          refine lv_aload_n hx hb dX12_item_117 rfl (lv_at hl 0 rfl) ?_
          refine R_get (v := .int (hI σ1 40 19)) hx hb ht ui_X12 hown hK hB (by decide) (cell_8 rfl) rfl 19 (by decide) (ht _ tw935) (fun _ h9 => h9) rfl dX12_item_118 ?_
          refine lv_aload_n hx hb dX12_item_121 rfl (lv_at hl 0 rfl) ?_
          refine R_get (v := .int (hI σ1 40 20)) hx hb ht ui_X12 hown hK hB (by decide) (cell_8 rfl) rfl 20 (by decide) (ht _ tw936) (fun _ h9 => h9) rfl dX12_item_122 ?_
          refine lv_icmp_ge (tgt := 148) hx hb dX12_item_125 (by decide) (fun c_70 => ?_) (fun c_70 => ?_)
          · replace h := itp h c_70
            replace h := ex_eq h; obtain ⟨b1, h, hz1⟩ := h
            subst hz1
            have hz1 := (itk_inr hx1).symm
            subst hz1
            exact hb_148 σ1 H locs ls h hB (lv_sub hl [0] rfl)
          · replace h := itn h c_70
            refine lv_aload_n hx hb dX12_item_128 rfl (lv_at hl 0 rfl) ?_
            refine R_get (v := .ref (gL g 54)) hx hb ht ui_X12 hown hK hB (by decide) (cell_8 rfl) rfl 14 (by decide) (ht _ tw930) (fun _ h9 => h9) rfl dX12_item_129 ?_
            refine lv_aload_n hx hb dX12_item_132 rfl (lv_at hl 0 rfl) ?_
            refine R_get (v := .int (hI σ1 40 18)) hx hb ht ui_X12 hown hK hB (by decide) (cell_8 rfl) rfl 18 (by decide) (ht _ tw934) (fun _ h9 => h9) rfl dX12_item_133 ?_
            refine lv_aload_n hx hb dX12_item_136 rfl (lv_at hl 0 rfl) ?_
            refine R_get (v := .int (hI σ1 40 19)) hx hb ht ui_X12 hown hK hB (by decide) (cell_8 rfl) rfl 19 (by decide) (ht _ tw935) (fun _ h9 => h9) rfl dX12_item_137 ?_
            refine lv_iadd hx hb dX12_item_140 ?_
            replace h := ck_eq h; obtain ⟨q_75, h⟩ := h
            refine R_lald hx hb hK hB rfl (inb_eq q_75) dX12_item_141 ?_
            refine lv_l2i (v := (hJ σ1 54 ((hI σ1 40 18) + (hI σ1 40 19)).toNatClampNeg).toInt32) hx hb dX12_item_142 rfl ?_
            refine lv_bipush (v := 32) hx hb dX12_item_143 (by decide) ?_
            refine lv_icmp_eq (tgt := 157) hx hb dX12_item_145 (by decide) (fun c_76 => ?_) (fun c_76 => ?_)
            · replace h := itp h c_76
              refine lv_aload_n hx hb dX12_item_157 rfl (lv_at hl 0 rfl) ?_
              refine lv_dup hx hb dX12_item_158 rfl ?_
              refine R_get (v := .int (hI σ1 40 19)) hx hb ht ui_X12 hown hK hB (by decide) (cell_8 rfl) rfl 19 (by decide) (ht _ tw935) (fun _ h9 => h9) rfl dX12_item_159 ?_
              refine lv_iconst (v := 1) hx hb dX12_item_162 (by decide) ?_
              refine lv_iadd hx hb dX12_item_163 ?_
              refine R_putI (v := ((hI σ1 40 19) + (1 : Int32))) (ty := .int) hx hb ht ui_X12 tyX12 tyX12_ok nmX12 hown hK hB (by decide) (cell_8 rfl) rfl 19 (by decide) (ht _ tw935) (fun _ h9 => h9) rfl (by decide +kernel) rfl rfl (Nat.le_of_ble_eq_true rfl) (st8_19 rfl) dX12_item_164 (fun H locs hB => ?_)
              exact hb_167 x4 (sI σ1 40 19 ((hI σ1 40 19) + (1 : Int32))) H locs ls h hB (lv_sub hl [0, 1, 2, 3, 4] rfl)
            · replace h := itn h c_76
              replace h := ex_eq h; obtain ⟨b1, h, hz1⟩ := h
              subst hz1
              have hz1 := (itk_inr hx1).symm
              subst hz1
              exact hb_148 σ1 H locs ls h hB (lv_sub hl [0] rfl)
  have hb_102 : ∀ (x1 : Int32) (x2 : Int32) (xt0 : Int32) (σ1 : Hp) (H : Heap) (locs : List Loc) (ls : Array Slot), f_X12_item_b102 x1 x2 xt0 σ1 = some (r, τ) → tB g P σ1 A s.heap H locs → lv_has ls 6 [(0, .ref (gL g 40)), (1, .int x1), (2, .int x2)] → WQ p l e { frames := 3, cells := 0, slots := 0, locals := 82 } s m args below meth c g P A (some (.int r)) τ H locs (F0 m 102 ls [.int xt0]) := by
    intro x1 x2 xt0 σ1 H locs ls h hB hl
    unfold f_X12_item_b102 at h
    refine lv_istore_n (lv' := [(3, .int xt0), (0, .ref (gL g 40)), (1, .int x1), (2, .int x2)]) hx hb dX12_item_102 rfl hl (by decide) rfl (fun ls hl => ?_)
    refine lv_iconst (v := 0) hx hb dX12_item_103 (by decide) ?_
    refine lv_istore (lv' := [(4, .int (0 : Int32)), (3, .int xt0), (0, .ref (gL g 40)), (1, .int x1), (2, .int x2)]) hx hb dX12_item_104 hl (by decide) rfl (fun ls hl => ?_)
    exact hL_106 x1 x2 xt0 fuel (0 : Int32) σ1 H locs ls h hB (lv_sub hl [2, 3, 4, 1, 0] rfl)
  have hb_71 : ∀ (x1 : Int32) (σ1 : Hp) (H : Heap) (locs : List Loc) (ls : Array Slot), f_X12_item_b71 x1 σ1 = some (r, τ) → tB g P σ1 A s.heap H locs → lv_has ls 6 [(0, .ref (gL g 40)), (1, .int x1)] → WQ p l e { frames := 3, cells := 0, slots := 0, locals := 82 } s m args below meth c g P A (some (.int r)) τ H locs (F0 m 71 ls []) := by
    intro x1 σ1 H locs ls h hB hl
    unfold f_X12_item_b71 at h
    refine lv_aload_n hx hb dX12_item_71 rfl (lv_at hl 0 rfl) ?_
    replace h := b2_eq h; obtain ⟨r_18, s_19, hc_20, h⟩ := h
    refine R_call (rest := []) [.int r_18] (R_runV (n := 0) (As := []) ⟨hx, hb, hml, hown, ht⟩ (fun _ h9 => h9) hK hZ hA hB (c_X12_word l g P σ1 H.size hc_20) (R_recv hK hB (by decide) (cell_8 rfl) rfl) tw1149 tw1146 tw1148 pw40 tw5 ⟨by decide, by decide, by decide⟩ rfl rfl ⟨Nat.le_of_ble_eq_true rfl, Nat.le_of_ble_eq_true rfl⟩ rfl hl.1 rfl (Nat.le_of_ble_eq_true rfl) dX12_item_72 ⟨Nat.zero_le _, Nat.zero_le _⟩) hB hA rfl (fun H locs hB => ?_)
    refine lv_istore_n (lv' := [(2, .int r_18), (0, .ref (gL g 40)), (1, .int x1)]) hx hb dX12_item_75 rfl hl (by decide) rfl (fun ls hl => ?_)
    refine lv_iload_n hx hb dX12_item_76 rfl (lv_at hl 0 rfl) ?_
    refine lv_iconst (v := -1) hx hb dX12_item_77 (by decide) ?_
    refine lv_icmp_ne (tgt := 83) hx hb dX12_item_78 (by decide) (fun c_21 => ?_) (fun c_21 => ?_)
    · replace h := itn h c_21
      refine lv_iload_n hx hb dX12_item_83 rfl (lv_at hl 0 rfl) ?_
      refine lv_iconst (v := 1) hx hb dX12_item_84 (by decide) ?_
      refine lv_icmp_ne (tgt := 92) hx hb dX12_item_85 (by decide) (fun c_22 => ?_) (fun c_22 => ?_)
      · replace h := itn h c_22
        refine lv_iload_n hx hb dX12_item_92 rfl (lv_at hl 0 rfl) ?_
        refine lv_iconst (v := 2) hx hb dX12_item_93 (by decide) ?_
        refine lv_icmp_ne (tgt := 101) hx hb dX12_item_94 (by decide) (fun c_23 => ?_) (fun c_23 => ?_)
        · replace h := itn h c_23
          refine lv_iconst (v := 1) hx hb dX12_item_101 (by decide) ?_
          exact hb_102 x1 r_18 (1 : Int32) s_19 H locs ls h hB (lv_sub hl [1, 2, 0] rfl)
        · replace h := itp h c_23
          refine lv_iconst (v := 3) hx hb dX12_item_97 (by decide) ?_
          refine lv_goto (tgt := 102) hx hb dX12_item_98 (by decide) ?_
          exact hb_102 x1 r_18 (3 : Int32) s_19 H locs ls h hB (lv_sub hl [1, 2, 0] rfl)
      · replace h := itp h c_22
        refine lv_iconst (v := 2) hx hb dX12_item_88 (by decide) ?_
        refine lv_goto (tgt := 102) hx hb dX12_item_89 (by decide) ?_
        exact hb_102 x1 r_18 (2 : Int32) s_19 H locs ls h hB (lv_sub hl [1, 2, 0] rfl)
    · replace h := itp h c_21
      refine lv_iconst (v := 0) hx hb dX12_item_81 (by decide) ?_
      obtain ⟨rfl, rfl⟩ := Prod.mk.inj (Option.some.inj h)
      exact W.zret hx hb hr rfl (R_end hB) hB.2.2.2.2 dX12_item_82
  have hb_47 : ∀ (x1 : Int32) (σ1 : Hp) (H : Heap) (locs : List Loc) (ls : Array Slot), f_X12_item_b47 x1 σ1 = some (r, τ) → tB g P σ1 A s.heap H locs → lv_has ls 6 [(0, .ref (gL g 40)), (1, .int x1)] → WQ p l e { frames := 3, cells := 0, slots := 0, locals := 82 } s m args below meth c g P A (some (.int r)) τ H locs (F0 m 47 ls []) := by
    intro x1 σ1 H locs ls h hB hl
    unfold f_X12_item_b47 at h
    refine lv_aload_n hx hb dX12_item_47 rfl (lv_at hl 0 rfl) ?_
    refine lv_iconst (v := 4) hx hb dX12_item_48 (by decide) ?_
    replace h := b2_eq h; obtain ⟨r_14, s_15, hc_16, h⟩ := h
    refine R_call (rest := []) [.int r_14] (R_runV (n := 1) (As := [.int (4 : Int32)]) ⟨hx, hb, hml, hown, ht⟩ (fun _ h9 => h9) hK hZ hA hB (c_X12_isWordAt l g P σ1 (4 : Int32) H.size hc_16) (R_recv hK hB (by decide) (cell_8 rfl) rfl) tw1141 tw1138 tw1140 pw38 tw5 ⟨by decide, by decide, by decide⟩ rfl rfl ⟨Nat.le_of_ble_eq_true rfl, Nat.le_of_ble_eq_true rfl⟩ rfl hl.1 rfl (Nat.le_of_ble_eq_true rfl) dX12_item_49 ⟨Nat.zero_le _, Nat.zero_le _⟩) hB hA rfl (fun H locs hB => ?_)
    refine lv_if_eq (tgt := 71) hx hb dX12_item_52 (by decide) (fun c_17 => ?_) (fun c_17 => ?_)
    · replace h := itp h c_17
      exact hb_71 x1 s_15 H locs ls h hB (lv_sub hl [0, 1] rfl)
    · replace h := itn h c_17
      refine lv_aload_n hx hb dX12_item_55 rfl (lv_at hl 0 rfl) ?_
      refine R_get (v := .int (hI s_15 40 1)) hx hb ht ui_X12 hown hK hB (by decide) (cell_8 rfl) rfl 1 (by decide) (ht _ tw917) (fun _ h9 => h9) rfl dX12_item_56 ?_
      refine lv_if_ne (tgt := 71) hx hb dX12_item_59 (by decide) (fun c_77 => ?_) (fun c_77 => ?_)
      · replace h := itn h c_77
        exact hb_71 x1 s_15 H locs ls h hB (lv_sub hl [0, 1] rfl)
      · replace h := itp h c_77
        exact hb_62 s_15 H locs ls h hB (lv_sub hl [0] rfl)
  have hb_38 : ∀ (x1 : Int32) (σ1 : Hp) (H : Heap) (locs : List Loc) (ls : Array Slot), f_X12_item_b38 x1 σ1 = some (r, τ) → tB g P σ1 A s.heap H locs → lv_has ls 6 [(0, .ref (gL g 40)), (1, .int x1)] → WQ p l e { frames := 3, cells := 0, slots := 0, locals := 82 } s m args below meth c g P A (some (.int r)) τ H locs (F0 m 38 ls []) := by
    intro x1 σ1 H locs ls h hB hl
    unfold f_X12_item_b38 at h
    refine lv_aload_n hx hb dX12_item_38 rfl (lv_at hl 0 rfl) ?_
    refine R_get (v := .int (hI σ1 40 1)) hx hb ht ui_X12 hown hK hB (by decide) (cell_8 rfl) rfl 1 (by decide) (ht _ tw917) (fun _ h9 => h9) rfl dX12_item_39 ?_
    refine lv_bipush (v := 20) hx hb dX12_item_42 (by decide) ?_
    refine lv_icmp_eq (tgt := 62) hx hb dX12_item_44 (by decide) (fun c_9 => ?_) (fun c_9 => ?_)
    · replace h := itp h c_9
      exact hb_62 σ1 H locs ls h hB (lv_sub hl [0] rfl)
    · replace h := itn h c_9
      exact hb_47 x1 σ1 H locs ls h hB (lv_sub hl [0, 1] rfl)
  have hb_22 : ∀ (x1 : Int32) (σ1 : Hp) (H : Heap) (locs : List Loc) (ls : Array Slot), f_X12_item_b22 x1 σ1 = some (r, τ) → tB g P σ1 A s.heap H locs → lv_has ls 6 [(0, .ref (gL g 40)), (1, .int x1)] → WQ p l e { frames := 3, cells := 0, slots := 0, locals := 82 } s m args below meth c g P A (some (.int r)) τ H locs (F0 m 22 ls []) := by
    intro x1 σ1 H locs ls h hB hl
    unfold f_X12_item_b22 at h
    refine lv_aload_n hx hb dX12_item_22 rfl (lv_at hl 0 rfl) ?_
    refine lv_iconst (v := 3) hx hb dX12_item_23 (by decide) ?_
    replace h := b2_eq h; obtain ⟨r_5, s_6, hc_7, h⟩ := h
    refine R_call (rest := []) [.int r_5] (R_runV (n := 1) (As := [.int (3 : Int32)]) ⟨hx, hb, hml, hown, ht⟩ (fun _ h9 => h9) hK hZ hA hB (c_X12_isWordAt l g P σ1 (3 : Int32) H.size hc_7) (R_recv hK hB (by decide) (cell_8 rfl) rfl) tw1141 tw1138 tw1140 pw38 tw5 ⟨by decide, by decide, by decide⟩ rfl rfl ⟨Nat.le_of_ble_eq_true rfl, Nat.le_of_ble_eq_true rfl⟩ rfl hl.1 rfl (Nat.le_of_ble_eq_true rfl) dX12_item_24 ⟨Nat.zero_le _, Nat.zero_le _⟩) hB hA rfl (fun H locs hB => ?_)
    refine lv_if_ne (tgt := 38) hx hb dX12_item_27 (by decide) (fun c_8 => ?_) (fun c_8 => ?_)
    · replace h := itn h c_8
      exact hb_38 x1 s_6 H locs ls h hB (lv_sub hl [0, 1] rfl)
    · replace h := itp h c_8
      refine lv_aload_n hx hb dX12_item_30 rfl (lv_at hl 0 rfl) ?_
      refine lv_iconst (v := 4) hx hb dX12_item_31 (by decide) ?_
      replace h := b2_eq h; obtain ⟨r_78, s_79, hc_80, h⟩ := h
      refine R_call (rest := []) [.int r_78] (R_runV (n := 1) (As := [.int (4 : Int32)]) ⟨hx, hb, hml, hown, ht⟩ (fun _ h9 => h9) hK hZ hA hB (c_X12_isWordAt l g P s_6 (4 : Int32) H.size hc_80) (R_recv hK hB (by decide) (cell_8 rfl) rfl) tw1141 tw1138 tw1140 pw38 tw5 ⟨by decide, by decide, by decide⟩ rfl rfl ⟨Nat.le_of_ble_eq_true rfl, Nat.le_of_ble_eq_true rfl⟩ rfl hl.1 rfl (Nat.le_of_ble_eq_true rfl) dX12_item_32 ⟨Nat.zero_le _, Nat.zero_le _⟩) hB hA rfl (fun H locs hB => ?_)
      refine lv_if_eq (tgt := 47) hx hb dX12_item_35 (by decide) (fun c_81 => ?_) (fun c_81 => ?_)
      · replace h := itp h c_81
        exact hb_47 x1 s_79 H locs ls h hB (lv_sub hl [0, 1] rfl)
      · replace h := itn h c_81
        exact hb_38 x1 s_79 H locs ls h hB (lv_sub hl [0, 1] rfl)
  suffices hmain : ∀ (H : Heap) (locs : List Loc) (ls : Array Slot), tB g P σ A s.heap H locs → lv_has ls 6 [(0, .ref (gL g 40))] → WQ p l e { frames := 3, cells := 0, slots := 0, locals := 82 } s m args below meth c g P A (some (.int r)) τ H locs (F0 m 0 ls []) from hmain _ _ ls0 hB0 hl0
  intro H locs ls hB hl
  unfold f_X12_item at h
  refine lv_aload_n hx hb dX12_item_0 rfl (lv_at hl 0 rfl) ?_
  refine R_get (v := .int (hI σ 40 19)) hx hb ht ui_X12 hown hK hB (by decide) (cell_8 rfl) rfl 19 (by decide) (ht _ tw935) (fun _ h9 => h9) rfl dX12_item_1 ?_
  refine lv_istore_n (lv' := [(1, .int (hI σ 40 19)), (0, .ref (gL g 40))]) hx hb dX12_item_4 rfl hl (by decide) rfl (fun ls hl => ?_)
  refine lv_aload_n hx hb dX12_item_5 rfl (lv_at hl 1 rfl) ?_
  refine lv_iconst (v := 1) hx hb dX12_item_6 (by decide) ?_
  replace h := b2_eq h; obtain ⟨r_1, s_2, hc_3, h⟩ := h
  refine R_call (rest := []) [.int r_1] (R_runV (n := 1) (As := [.int (1 : Int32)]) ⟨hx, hb, hml, hown, ht⟩ (fun _ h9 => h9) hK hZ hA hB (c_X12_isWordAt l g P σ (1 : Int32) H.size hc_3) (R_recv hK hB (by decide) (cell_8 rfl) rfl) tw1141 tw1138 tw1140 pw38 tw5 ⟨by decide, by decide, by decide⟩ rfl rfl ⟨Nat.le_of_ble_eq_true rfl, Nat.le_of_ble_eq_true rfl⟩ rfl hl.1 rfl (Nat.le_of_ble_eq_true rfl) dX12_item_7 ⟨Nat.zero_le _, Nat.zero_le _⟩) hB hA rfl (fun H locs hB => ?_)
  refine lv_if_eq (tgt := 22) hx hb dX12_item_10 (by decide) (fun c_4 => ?_) (fun c_4 => ?_)
  · replace h := itp h c_4
    exact hb_22 (hI σ 40 19) s_2 H locs ls h hB (lv_sub hl [1, 0] rfl)
  · replace h := itn h c_4
    refine lv_aload_n hx hb dX12_item_13 rfl (lv_at hl 1 rfl) ?_
    refine R_get (v := .int (hI s_2 40 0)) hx hb ht ui_X12 hown hK hB (by decide) (cell_8 rfl) rfl 0 (by decide) (ht _ tw916) (fun _ h9 => h9) rfl dX12_item_14 ?_
    refine lv_bipush (v := 6) hx hb dX12_item_17 (by decide) ?_
    refine lv_icmp_eq (tgt := 62) hx hb dX12_item_19 (by decide) (fun c_82 => ?_) (fun c_82 => ?_)
    · replace h := itp h c_82
      exact hb_62 s_2 H locs ls h hB (lv_sub hl [1] rfl)
    · replace h := itn h c_82
      exact hb_22 (hI σ 40 19) s_2 H locs ls h hB (lv_sub hl [1, 0] rfl)
def f_X12_carries_b39 (x1 : Nat) (x2 : Int32) (x3 : Nat) (x4 : Int32) (x5 : Int32) (x6 : Int32) (σ1 : Hp) : Option ((Int32 × Hp) ⊕ (Int32 × Hp)) := some (.inl ((x6 + 1), σ1))
def f_X12_carries_t3 (x1 : Nat) (x2 : Int32) (x3 : Nat) (x4 : Int32) (x5 : Int32) (x6 : Int32) (σ1 : Hp) : Option ((Int32 × Hp) ⊕ (Int32 × Hp)) := if x2 ≤ x6 then ex (some ((x4 + x2), σ1)) else if x5 = 0 then ck (inb x6 (ln x1) = true) (ck (inb (x4 + x6) (ln x3) = true) (f_X12_carries_b39 x1 x2 x3 x4 x5 x6 (sI σ1 x3 (x4 + x6).toNatClampNeg (hI σ1 x1 x6.toNatClampNeg)))) else ck (inb (x4 + x6) (ln x3) = true) (ck (inb x6 (ln x1) = true) (f_X12_carries_b39 x1 x2 x3 x4 x5 x6 (sI σ1 x1 x6.toNatClampNeg (hI σ1 x3 (x4 + x6).toNatClampNeg))))
def f_X12_carries_s3 (x1 : Nat) (x2 : Int32) (x3 : Nat) (x4 : Int32) (x5 : Int32) (v : (Int32 × Hp)) : Option ((Int32 × Hp) ⊕ (Int32 × Hp)) := f_X12_carries_t3 x1 x2 x3 x4 x5 v.1 v.2
def f_X12_carries (k1 : Nat) (a2 : Int32) (k3 : Nat) (a4 : Int32) (a5 : Int32) (σ : Hp) : Option (Int32 × Hp) := iter (f_X12_carries_s3 k1 a2 k3 a4 a5) fuel ((0 : Int32), σ)
set_option maxHeartbeats 4000000 in
set_option maxRecDepth 100000 in
theorem c_X12_carries (l : Launch) (g : tG) (P : Nat → Nat) (σ : Hp) (k1 : Nat) (a2 : Int32) (k3 : Nat) (a4 : Int32) (a5 : Int32) (hk_k1 : ky k1 = 3) (hk_k3 : ky k3 = 3) (sz : Nat) {r : Int32} {τ : Hp} (h : f_X12_carries k1 a2 k3 a4 a5 σ = some (r, τ)) : Met l yX12_carries (Cond.code yX12_carries cX12_carries 7 (some .int) :: tblG) ({ frames := 0, cells := 0, slots := 0, locals := 0 }) (va_Pc [.ref (gL g 40), .ref (gL g k1), .int a2, .ref (gL g k3), .int a4, .int a5] (tPre g P σ sz)) (tQ (some (.int r)) (tPost g P τ (va_A (wC g P σ) sz)) (va_A (wC g P σ) sz)) 0 0 (va_A (wC g P σ) sz) := by
  refine T_start (B := fun A => tPost g P τ A) (by decide) (Nat.le_of_ble_eq_true rfl) ?_
  intro p e s m args below meth c ls0 A hx hb hml hr hown hlocks ht hnm hK hZ hA hB0 hl0
  have hL_3 : ∀ (x1 : Nat) (x2 : Int32) (x3 : Nat) (x4 : Int32) (x5 : Int32) (hk_x1 : ky x1 = 3) (hk_x3 : ky x3 = 3) (n : Nat) (x6 : Int32) (σ1 : Hp) (H : Heap) (locs : List Loc) (ls : Array Slot), iter (f_X12_carries_s3 x1 x2 x3 x4 x5) n (x6, σ1) = some (r, τ) → tB g P σ1 A s.heap H locs → lv_has ls 7 [(1, .ref (gL g x1)), (2, .int x2), (3, .ref (gL g x3)), (4, .int x4), (5, .int x5), (6, .int x6)] → WQ p l e { frames := 0, cells := 0, slots := 0, locals := 0 } s m args below meth c g P A (some (.int r)) τ H locs (F0 m 3 ls []) := by
    intro x1 x2 x3 x4 x5 hk_x1 hk_x3 n
    induction n with
    | zero =>
      intro x6 σ1 H locs ls h hB hl
      exact (iter_0 h).elim
    | succ n ih1 =>
      intro x6 σ1 H locs ls h hB hl
      replace h := iter_eq h; obtain ⟨z1, hh1, hx1⟩ := h
      have hb_39 : ∀ (x6 : Int32) (σ1 : Hp) (H : Heap) (locs : List Loc) (ls : Array Slot), f_X12_carries_b39 x1 x2 x3 x4 x5 x6 σ1 = some z1 → tB g P σ1 A s.heap H locs → lv_has ls 7 [(1, .ref (gL g x1)), (2, .int x2), (3, .ref (gL g x3)), (4, .int x4), (5, .int x5), (6, .int x6)] → WQ p l e { frames := 0, cells := 0, slots := 0, locals := 0 } s m args below meth c g P A (some (.int r)) τ H locs (F0 m 39 ls []) := by
        intro x6 σ1 H locs ls h hB hl
        unfold f_X12_carries_b39 at h
        refine lv_iinc (v := x6 + 1) (lv' := [(6, .int (x6 + 1)), (1, .ref (gL g x1)), (2, .int x2), (3, .ref (gL g x3)), (4, .int x4), (5, .int x5)]) hx hb dX12_carries_39 hl (k := 5) rfl rfl (by decide) rfl (fun ls hl => ?_)
        refine lv_goto (tgt := 3) hx hb dX12_carries_42 (by decide) ?_
        obtain rfl := Option.some.inj h
        exact ih1 (x6 + 1) σ1 H locs ls hx1 hB (lv_sub hl [1, 2, 3, 4, 5, 0] rfl)
      have h : f_X12_carries_t3 x1 x2 x3 x4 x5 x6 σ1 = some z1 := hh1
      clear hh1
      unfold f_X12_carries_t3 at h
      refine lv_iload hx hb dX12_carries_3 (lv_at hl 5 rfl) ?_
      refine lv_iload_n hx hb dX12_carries_5 rfl (lv_at hl 1 rfl) ?_
      refine lv_icmp_ge (tgt := 45) hx hb dX12_carries_6 (by decide) (fun c_1 => ?_) (fun c_1 => ?_)
      · replace h := itp h c_1
        replace h := ex_eq h; obtain ⟨b1, h, hz1⟩ := h
        subst hz1
        have hz1 := (itk_inr hx1).symm
        subst hz1
        refine lv_iload hx hb dX12_carries_45 (lv_at hl 3 rfl) ?_
        refine lv_iload_n hx hb dX12_carries_47 rfl (lv_at hl 1 rfl) ?_
        refine lv_iadd hx hb dX12_carries_48 ?_
        obtain ⟨rfl, rfl⟩ := Prod.mk.inj (Option.some.inj h)
        exact W.iret hx hb hr (R_end hB) hB.2.2.2.2 dX12_carries_49
      · replace h := itn h c_1
        refine lv_iload hx hb dX12_carries_9 (lv_at hl 4 rfl) ?_
        refine lv_if_eq (tgt := 28) hx hb dX12_carries_11 (by decide) (fun c_2 => ?_) (fun c_2 => ?_)
        · replace h := itp h c_2
          refine lv_aload_n hx hb dX12_carries_28 rfl (lv_at hl 2 rfl) ?_
          refine lv_iload hx hb dX12_carries_29 (lv_at hl 3 rfl) ?_
          refine lv_iload hx hb dX12_carries_31 (lv_at hl 5 rfl) ?_
          refine lv_iadd hx hb dX12_carries_33 ?_
          refine lv_aload_n hx hb dX12_carries_34 rfl (lv_at hl 0 rfl) ?_
          refine lv_iload hx hb dX12_carries_35 (lv_at hl 5 rfl) ?_
          replace h := ck_eq h; obtain ⟨q_3, h⟩ := h
          refine R_iald hx hb hK hB hk_x1 (inb_eq q_3) dX12_carries_37 ?_
          replace h := ck_eq h; obtain ⟨q_4, h⟩ := h
          refine R_iast hx hb hK hB hk_x3 (inb_eq q_4) dX12_carries_38 (fun H locs hB => ?_)
          exact hb_39 x6 (sI σ1 x3 (x4 + x6).toNatClampNeg (hI σ1 x1 x6.toNatClampNeg)) H locs ls h hB (lv_sub hl [0, 1, 2, 3, 4, 5] rfl)
        · replace h := itn h c_2
          refine lv_aload_n hx hb dX12_carries_14 rfl (lv_at hl 0 rfl) ?_
          refine lv_iload hx hb dX12_carries_15 (lv_at hl 5 rfl) ?_
          refine lv_aload_n hx hb dX12_carries_17 rfl (lv_at hl 2 rfl) ?_
          refine lv_iload hx hb dX12_carries_18 (lv_at hl 3 rfl) ?_
          refine lv_iload hx hb dX12_carries_20 (lv_at hl 5 rfl) ?_
          refine lv_iadd hx hb dX12_carries_22 ?_
          replace h := ck_eq h; obtain ⟨q_5, h⟩ := h
          refine R_iald hx hb hK hB hk_x3 (inb_eq q_5) dX12_carries_23 ?_
          replace h := ck_eq h; obtain ⟨q_6, h⟩ := h
          refine R_iast hx hb hK hB hk_x1 (inb_eq q_6) dX12_carries_24 (fun H locs hB => ?_)
          refine lv_goto (tgt := 39) hx hb dX12_carries_25 (by decide) ?_
          exact hb_39 x6 (sI σ1 x1 x6.toNatClampNeg (hI σ1 x3 (x4 + x6).toNatClampNeg)) H locs ls h hB (lv_sub hl [0, 1, 2, 3, 4, 5] rfl)
  suffices hmain : ∀ (H : Heap) (locs : List Loc) (ls : Array Slot), tB g P σ A s.heap H locs → lv_has ls 7 [(0, .ref (gL g 40)), (1, .ref (gL g k1)), (2, .int a2), (3, .ref (gL g k3)), (4, .int a4), (5, .int a5)] → WQ p l e { frames := 0, cells := 0, slots := 0, locals := 0 } s m args below meth c g P A (some (.int r)) τ H locs (F0 m 0 ls []) from hmain _ _ ls0 hB0 hl0
  intro H locs ls hB hl
  unfold f_X12_carries at h
  refine lv_iconst (v := 0) hx hb dX12_carries_0 (by decide) ?_
  refine lv_istore (lv' := [(6, .int (0 : Int32)), (0, .ref (gL g 40)), (1, .ref (gL g k1)), (2, .int a2), (3, .ref (gL g k3)), (4, .int a4), (5, .int a5)]) hx hb dX12_carries_1 hl (by decide) rfl (fun ls hl => ?_)
  exact hL_3 k1 a2 k3 a4 a5 hk_k1 hk_k3 fuel (0 : Int32) σ H locs ls h hB (lv_sub hl [2, 3, 4, 5, 6, 0] rfl)
def f_X12_all_b86 (x1 : Nat) (x2 : Nat) (x3 : Int32) (x4 : Int32) (x5 : Int32) (σ1 : Hp) : Option ((Int32 × Hp) ⊕ (Unit × Hp)) := some (.inl ((x5 + 1), σ1))
def f_X12_all_t50 (x1 : Nat) (x2 : Nat) (x3 : Int32) (x4 : Int32) (x5 : Int32) (σ1 : Hp) : Option ((Int32 × Hp) ⊕ (Unit × Hp)) := if (20 : Int32) ≤ x5 then ex (if x3 = 0 then ck (inb x4 (ln x1) = true) (ck (inb (x4 + (1 : Int32)) (ln x1) = true) (ck (inb (x4 + (2 : Int32)) (ln x1) = true) (ck (inb (x4 + (3 : Int32)) (ln x1) = true) (some ((), (sI (sI (sI (sI σ1 x1 x4.toNatClampNeg (hI σ1 40 0)) x1 (x4 + (1 : Int32)).toNatClampNeg (hI (sI σ1 x1 x4.toNatClampNeg (hI σ1 40 0)) 40 1)) x1 (x4 + (2 : Int32)).toNatClampNeg (hI (sI (sI σ1 x1 x4.toNatClampNeg (hI σ1 40 0)) x1 (x4 + (1 : Int32)).toNatClampNeg (hI (sI σ1 x1 x4.toNatClampNeg (hI σ1 40 0)) 40 1)) 40 2)) x1 (x4 + (3 : Int32)).toNatClampNeg (hI (sI (sI (sI σ1 x1 x4.toNatClampNeg (hI σ1 40 0)) x1 (x4 + (1 : Int32)).toNatClampNeg (hI (sI σ1 x1 x4.toNatClampNeg (hI σ1 40 0)) 40 1)) x1 (x4 + (2 : Int32)).toNatClampNeg (hI (sI (sI σ1 x1 x4.toNatClampNeg (hI σ1 40 0)) x1 (x4 + (1 : Int32)).toNatClampNeg (hI (sI σ1 x1 x4.toNatClampNeg (hI σ1 40 0)) 40 1)) 40 2)) 40 3))))))) else ck (inb x4 (ln x1) = true) (ck (inb (x4 + (1 : Int32)) (ln x1) = true) (ck (inb (x4 + (2 : Int32)) (ln x1) = true) (ck (inb (x4 + (3 : Int32)) (ln x1) = true) (some ((), (sI (sI (sI (sI σ1 40 0 (hI σ1 x1 x4.toNatClampNeg)) 40 1 (hI (sI σ1 40 0 (hI σ1 x1 x4.toNatClampNeg)) x1 (x4 + (1 : Int32)).toNatClampNeg)) 40 2 (hI (sI (sI σ1 40 0 (hI σ1 x1 x4.toNatClampNeg)) 40 1 (hI (sI σ1 40 0 (hI σ1 x1 x4.toNatClampNeg)) x1 (x4 + (1 : Int32)).toNatClampNeg)) x1 (x4 + (2 : Int32)).toNatClampNeg)) 40 3 (hI (sI (sI (sI σ1 40 0 (hI σ1 x1 x4.toNatClampNeg)) 40 1 (hI (sI σ1 40 0 (hI σ1 x1 x4.toNatClampNeg)) x1 (x4 + (1 : Int32)).toNatClampNeg)) 40 2 (hI (sI (sI σ1 40 0 (hI σ1 x1 x4.toNatClampNeg)) 40 1 (hI (sI σ1 40 0 (hI σ1 x1 x4.toNatClampNeg)) x1 (x4 + (1 : Int32)).toNatClampNeg)) x1 (x4 + (2 : Int32)).toNatClampNeg)) x1 (x4 + (3 : Int32)).toNatClampNeg)))))))) else if x3 = 0 then ck (inb x5 20 = true) (ck (inb x5 (ln x2) = true) (f_X12_all_b86 x1 x2 x3 x4 x5 (sJ σ1 x2 x5.toNatClampNeg (hJ σ1 49 x5.toNatClampNeg)))) else ck (inb x5 (ln x2) = true) (ck (inb x5 20 = true) (f_X12_all_b86 x1 x2 x3 x4 x5 (sJ σ1 49 x5.toNatClampNeg (hJ σ1 x2 x5.toNatClampNeg))))
def f_X12_all_s50 (x1 : Nat) (x2 : Nat) (x3 : Int32) (x4 : Int32) (v : (Int32 × Hp)) : Option ((Int32 × Hp) ⊕ (Unit × Hp)) := f_X12_all_t50 x1 x2 x3 x4 v.1 v.2
def f_X12_all (k1 : Nat) (k2 : Nat) (a3 : Int32) (σ : Hp) : Option (Unit × Hp) := b2 (f_X12_carries 46 (6 : Int32) k1 (0 : Int32) a3 σ) (fun r_1 s_2 => b2 (f_X12_carries 47 (6 : Int32) k1 r_1 a3 s_2) (fun r_4 s_5 => b2 (f_X12_carries 48 (60 : Int32) k1 r_4 a3 s_5) (fun r_7 s_8 => iter (f_X12_all_s50 k1 k2 a3 r_7) fuel ((0 : Int32), s_8))))
set_option maxHeartbeats 4000000 in
set_option maxRecDepth 100000 in
theorem c_X12_all (l : Launch) (g : tG) (P : Nat → Nat) (σ : Hp) (k1 : Nat) (k2 : Nat) (a3 : Int32) (hk_k1 : ky k1 = 3) (hk_k2 : ky k2 = 4) (sz : Nat) {r : Unit} {τ : Hp} (h : f_X12_all k1 k2 a3 σ = some (r, τ)) : Met l yX12_all (Cond.code yX12_all cX12_all 6 none :: tblG) ({ frames := 1, cells := 0, slots := 0, locals := 26 }) (va_Pc [.ref (gL g 40), .ref (gL g k1), .ref (gL g k2), .int a3] (tPre g P σ sz)) (tQ none (tPost g P τ (va_A (wC g P σ) sz)) (va_A (wC g P σ) sz)) 0 0 (va_A (wC g P σ) sz) := by
  refine T_start (B := fun A => tPost g P τ A) (by decide) (Nat.le_of_ble_eq_true rfl) ?_
  intro p e s m args below meth c ls0 A hx hb hml hr hown hlocks ht hnm hK hZ hA hB0 hl0
  have hL_50 : ∀ (x1 : Nat) (x2 : Nat) (x3 : Int32) (x4 : Int32) (hk_x1 : ky x1 = 3) (hk_x2 : ky x2 = 4) (n : Nat) (x5 : Int32) (σ1 : Hp) (H : Heap) (locs : List Loc) (ls : Array Slot), iter (f_X12_all_s50 x1 x2 x3 x4) n (x5, σ1) = some (r, τ) → tB g P σ1 A s.heap H locs → lv_has ls 6 [(0, .ref (gL g 40)), (1, .ref (gL g x1)), (2, .ref (gL g x2)), (3, .int x3), (4, .int x4), (5, .int x5)] → WQ p l e { frames := 1, cells := 0, slots := 0, locals := 26 } s m args below meth c g P A none τ H locs (F0 m 50 ls []) := by
    intro x1 x2 x3 x4 hk_x1 hk_x2 n
    induction n with
    | zero =>
      intro x5 σ1 H locs ls h hB hl
      exact (iter_0 h).elim
    | succ n ih1 =>
      intro x5 σ1 H locs ls h hB hl
      replace h := iter_eq h; obtain ⟨z1, hh1, hx1⟩ := h
      have hb_86 : ∀ (x5 : Int32) (σ1 : Hp) (H : Heap) (locs : List Loc) (ls : Array Slot), f_X12_all_b86 x1 x2 x3 x4 x5 σ1 = some z1 → tB g P σ1 A s.heap H locs → lv_has ls 6 [(0, .ref (gL g 40)), (1, .ref (gL g x1)), (2, .ref (gL g x2)), (3, .int x3), (4, .int x4), (5, .int x5)] → WQ p l e { frames := 1, cells := 0, slots := 0, locals := 26 } s m args below meth c g P A none τ H locs (F0 m 86 ls []) := by
        intro x5 σ1 H locs ls h hB hl
        unfold f_X12_all_b86 at h
        refine lv_iinc (v := x5 + 1) (lv' := [(5, .int (x5 + 1)), (0, .ref (gL g 40)), (1, .ref (gL g x1)), (2, .ref (gL g x2)), (3, .int x3), (4, .int x4)]) hx hb dX12_all_86 hl (k := 5) rfl rfl (by decide) rfl (fun ls hl => ?_)
        refine lv_goto (tgt := 50) hx hb dX12_all_89 (by decide) ?_
        obtain rfl := Option.some.inj h
        exact ih1 (x5 + 1) σ1 H locs ls hx1 hB (lv_sub hl [1, 2, 3, 4, 5, 0] rfl)
      have h : f_X12_all_t50 x1 x2 x3 x4 x5 σ1 = some z1 := hh1
      clear hh1
      unfold f_X12_all_t50 at h
      refine lv_iload hx hb dX12_all_50 (lv_at hl 5 rfl) ?_
      refine lv_bipush (v := 20) hx hb dX12_all_52 (by decide) ?_
      refine lv_icmp_ge (tgt := 92) hx hb dX12_all_54 (by decide) (fun c_10 => ?_) (fun c_10 => ?_)
      · replace h := itp h c_10
        replace h := ex_eq h; obtain ⟨b1, h, hz1⟩ := h
        subst hz1
        have hz1 := (itk_inr hx1).symm
        subst hz1
        refine lv_iload_n hx hb dX12_all_92 rfl (lv_at hl 3 rfl) ?_
        refine lv_if_eq (tgt := 137) hx hb dX12_all_93 (by decide) (fun c_11 => ?_) (fun c_11 => ?_)
        · replace h := itp h c_11
          refine lv_aload_n hx hb dX12_all_137 rfl (lv_at hl 1 rfl) ?_
          refine lv_iload hx hb dX12_all_138 (lv_at hl 4 rfl) ?_
          refine lv_aload_n hx hb dX12_all_140 rfl (lv_at hl 0 rfl) ?_
          refine R_get (v := .int (hI σ1 40 0)) hx hb ht ui_X12 hown hK hB (by decide) (cell_8 rfl) rfl 0 (by decide) (ht _ tw916) (fun _ h9 => h9) rfl dX12_all_141 ?_
          replace h := ck_eq h; obtain ⟨q_12, h⟩ := h
          refine R_iast hx hb hK hB hk_x1 (inb_eq q_12) dX12_all_144 (fun H locs hB => ?_)
          refine lv_aload_n hx hb dX12_all_145 rfl (lv_at hl 1 rfl) ?_
          refine lv_iload hx hb dX12_all_146 (lv_at hl 4 rfl) ?_
          refine lv_iconst (v := 1) hx hb dX12_all_148 (by decide) ?_
          refine lv_iadd hx hb dX12_all_149 ?_
          refine lv_aload_n hx hb dX12_all_150 rfl (lv_at hl 0 rfl) ?_
          refine R_get (v := .int (hI (sI σ1 x1 x4.toNatClampNeg (hI σ1 40 0)) 40 1)) hx hb ht ui_X12 hown hK hB (by decide) (cell_8 rfl) rfl 1 (by decide) (ht _ tw917) (fun _ h9 => h9) rfl dX12_all_151 ?_
          replace h := ck_eq h; obtain ⟨q_13, h⟩ := h
          refine R_iast hx hb hK hB hk_x1 (inb_eq q_13) dX12_all_154 (fun H locs hB => ?_)
          refine lv_aload_n hx hb dX12_all_155 rfl (lv_at hl 1 rfl) ?_
          refine lv_iload hx hb dX12_all_156 (lv_at hl 4 rfl) ?_
          refine lv_iconst (v := 2) hx hb dX12_all_158 (by decide) ?_
          refine lv_iadd hx hb dX12_all_159 ?_
          refine lv_aload_n hx hb dX12_all_160 rfl (lv_at hl 0 rfl) ?_
          refine R_get (v := .int (hI (sI (sI σ1 x1 x4.toNatClampNeg (hI σ1 40 0)) x1 (x4 + (1 : Int32)).toNatClampNeg (hI (sI σ1 x1 x4.toNatClampNeg (hI σ1 40 0)) 40 1)) 40 2)) hx hb ht ui_X12 hown hK hB (by decide) (cell_8 rfl) rfl 2 (by decide) (ht _ tw918) (fun _ h9 => h9) rfl dX12_all_161 ?_
          replace h := ck_eq h; obtain ⟨q_14, h⟩ := h
          refine R_iast hx hb hK hB hk_x1 (inb_eq q_14) dX12_all_164 (fun H locs hB => ?_)
          refine lv_aload_n hx hb dX12_all_165 rfl (lv_at hl 1 rfl) ?_
          refine lv_iload hx hb dX12_all_166 (lv_at hl 4 rfl) ?_
          refine lv_iconst (v := 3) hx hb dX12_all_168 (by decide) ?_
          refine lv_iadd hx hb dX12_all_169 ?_
          refine lv_aload_n hx hb dX12_all_170 rfl (lv_at hl 0 rfl) ?_
          refine R_get (v := .int (hI (sI (sI (sI σ1 x1 x4.toNatClampNeg (hI σ1 40 0)) x1 (x4 + (1 : Int32)).toNatClampNeg (hI (sI σ1 x1 x4.toNatClampNeg (hI σ1 40 0)) 40 1)) x1 (x4 + (2 : Int32)).toNatClampNeg (hI (sI (sI σ1 x1 x4.toNatClampNeg (hI σ1 40 0)) x1 (x4 + (1 : Int32)).toNatClampNeg (hI (sI σ1 x1 x4.toNatClampNeg (hI σ1 40 0)) 40 1)) 40 2)) 40 3)) hx hb ht ui_X12 hown hK hB (by decide) (cell_8 rfl) rfl 3 (by decide) (ht _ tw919) (fun _ h9 => h9) rfl dX12_all_171 ?_
          replace h := ck_eq h; obtain ⟨q_15, h⟩ := h
          refine R_iast hx hb hK hB hk_x1 (inb_eq q_15) dX12_all_174 (fun H locs hB => ?_)
          obtain ⟨rfl, rfl⟩ := Prod.mk.inj (Option.some.inj h)
          exact W.vret hx hb hr (R_end hB) hB.2.2.2.2 dX12_all_175
        · replace h := itn h c_11
          refine lv_aload_n hx hb dX12_all_96 rfl (lv_at hl 0 rfl) ?_
          refine lv_aload_n hx hb dX12_all_97 rfl (lv_at hl 1 rfl) ?_
          refine lv_iload hx hb dX12_all_98 (lv_at hl 4 rfl) ?_
          replace h := ck_eq h; obtain ⟨q_16, h⟩ := h
          refine R_iald hx hb hK hB hk_x1 (inb_eq q_16) dX12_all_100 ?_
          refine R_putI (v := (hI σ1 x1 x4.toNatClampNeg)) (ty := .int) hx hb ht ui_X12 tyX12 tyX12_ok nmX12 hown hK hB (by decide) (cell_8 rfl) rfl 0 (by decide) (ht _ tw916) (fun _ h9 => h9) rfl (by decide +kernel) rfl rfl (Nat.le_of_ble_eq_true rfl) (st8_0 rfl) dX12_all_101 (fun H locs hB => ?_)
          refine lv_aload_n hx hb dX12_all_104 rfl (lv_at hl 0 rfl) ?_
          refine lv_aload_n hx hb dX12_all_105 rfl (lv_at hl 1 rfl) ?_
          refine lv_iload hx hb dX12_all_106 (lv_at hl 4 rfl) ?_
          refine lv_iconst (v := 1) hx hb dX12_all_108 (by decide) ?_
          refine lv_iadd hx hb dX12_all_109 ?_
          replace h := ck_eq h; obtain ⟨q_17, h⟩ := h
          refine R_iald hx hb hK hB hk_x1 (inb_eq q_17) dX12_all_110 ?_
          refine R_putI (v := (hI (sI σ1 40 0 (hI σ1 x1 x4.toNatClampNeg)) x1 (x4 + (1 : Int32)).toNatClampNeg)) (ty := .int) hx hb ht ui_X12 tyX12 tyX12_ok nmX12 hown hK hB (by decide) (cell_8 rfl) rfl 1 (by decide) (ht _ tw917) (fun _ h9 => h9) rfl (by decide +kernel) rfl rfl (Nat.le_of_ble_eq_true rfl) (st8_1 rfl) dX12_all_111 (fun H locs hB => ?_)
          refine lv_aload_n hx hb dX12_all_114 rfl (lv_at hl 0 rfl) ?_
          refine lv_aload_n hx hb dX12_all_115 rfl (lv_at hl 1 rfl) ?_
          refine lv_iload hx hb dX12_all_116 (lv_at hl 4 rfl) ?_
          refine lv_iconst (v := 2) hx hb dX12_all_118 (by decide) ?_
          refine lv_iadd hx hb dX12_all_119 ?_
          replace h := ck_eq h; obtain ⟨q_18, h⟩ := h
          refine R_iald hx hb hK hB hk_x1 (inb_eq q_18) dX12_all_120 ?_
          refine R_putI (v := (hI (sI (sI σ1 40 0 (hI σ1 x1 x4.toNatClampNeg)) 40 1 (hI (sI σ1 40 0 (hI σ1 x1 x4.toNatClampNeg)) x1 (x4 + (1 : Int32)).toNatClampNeg)) x1 (x4 + (2 : Int32)).toNatClampNeg)) (ty := .int) hx hb ht ui_X12 tyX12 tyX12_ok nmX12 hown hK hB (by decide) (cell_8 rfl) rfl 2 (by decide) (ht _ tw918) (fun _ h9 => h9) rfl (by decide +kernel) rfl rfl (Nat.le_of_ble_eq_true rfl) (st8_2 rfl) dX12_all_121 (fun H locs hB => ?_)
          refine lv_aload_n hx hb dX12_all_124 rfl (lv_at hl 0 rfl) ?_
          refine lv_aload_n hx hb dX12_all_125 rfl (lv_at hl 1 rfl) ?_
          refine lv_iload hx hb dX12_all_126 (lv_at hl 4 rfl) ?_
          refine lv_iconst (v := 3) hx hb dX12_all_128 (by decide) ?_
          refine lv_iadd hx hb dX12_all_129 ?_
          replace h := ck_eq h; obtain ⟨q_19, h⟩ := h
          refine R_iald hx hb hK hB hk_x1 (inb_eq q_19) dX12_all_130 ?_
          refine R_putI (v := (hI (sI (sI (sI σ1 40 0 (hI σ1 x1 x4.toNatClampNeg)) 40 1 (hI (sI σ1 40 0 (hI σ1 x1 x4.toNatClampNeg)) x1 (x4 + (1 : Int32)).toNatClampNeg)) 40 2 (hI (sI (sI σ1 40 0 (hI σ1 x1 x4.toNatClampNeg)) 40 1 (hI (sI σ1 40 0 (hI σ1 x1 x4.toNatClampNeg)) x1 (x4 + (1 : Int32)).toNatClampNeg)) x1 (x4 + (2 : Int32)).toNatClampNeg)) x1 (x4 + (3 : Int32)).toNatClampNeg)) (ty := .int) hx hb ht ui_X12 tyX12 tyX12_ok nmX12 hown hK hB (by decide) (cell_8 rfl) rfl 3 (by decide) (ht _ tw919) (fun _ h9 => h9) rfl (by decide +kernel) rfl rfl (Nat.le_of_ble_eq_true rfl) (st8_3 rfl) dX12_all_131 (fun H locs hB => ?_)
          refine lv_goto (tgt := 175) hx hb dX12_all_134 (by decide) ?_
          obtain ⟨rfl, rfl⟩ := Prod.mk.inj (Option.some.inj h)
          exact W.vret hx hb hr (R_end hB) hB.2.2.2.2 dX12_all_175
      · replace h := itn h c_10
        refine lv_iload_n hx hb dX12_all_57 rfl (lv_at hl 3 rfl) ?_
        refine lv_if_eq (tgt := 75) hx hb dX12_all_58 (by decide) (fun c_20 => ?_) (fun c_20 => ?_)
        · replace h := itp h c_20
          refine lv_aload_n hx hb dX12_all_75 rfl (lv_at hl 2 rfl) ?_
          refine lv_iload hx hb dX12_all_76 (lv_at hl 5 rfl) ?_
          refine lv_aload_n hx hb dX12_all_78 rfl (lv_at hl 0 rfl) ?_
          refine R_get (v := .ref (gL g 49)) hx hb ht ui_X12 hown hK hB (by decide) (cell_8 rfl) rfl 9 (by decide) (ht _ tw925) (fun _ h9 => h9) rfl dX12_all_79 ?_
          refine lv_iload hx hb dX12_all_82 (lv_at hl 5 rfl) ?_
          replace h := ck_eq h; obtain ⟨q_21, h⟩ := h
          refine R_lald hx hb hK hB rfl (inb_eq q_21) dX12_all_84 ?_
          replace h := ck_eq h; obtain ⟨q_22, h⟩ := h
          refine R_last hx hb hK hB hk_x2 (inb_eq q_22) dX12_all_85 (fun H locs hB => ?_)
          exact hb_86 x5 (sJ σ1 x2 x5.toNatClampNeg (hJ σ1 49 x5.toNatClampNeg)) H locs ls h hB (lv_sub hl [0, 1, 2, 3, 4, 5] rfl)
        · replace h := itn h c_20
          refine lv_aload_n hx hb dX12_all_61 rfl (lv_at hl 0 rfl) ?_
          refine R_get (v := .ref (gL g 49)) hx hb ht ui_X12 hown hK hB (by decide) (cell_8 rfl) rfl 9 (by decide) (ht _ tw925) (fun _ h9 => h9) rfl dX12_all_62 ?_
          refine lv_iload hx hb dX12_all_65 (lv_at hl 5 rfl) ?_
          refine lv_aload_n hx hb dX12_all_67 rfl (lv_at hl 2 rfl) ?_
          refine lv_iload hx hb dX12_all_68 (lv_at hl 5 rfl) ?_
          replace h := ck_eq h; obtain ⟨q_23, h⟩ := h
          refine R_lald hx hb hK hB hk_x2 (inb_eq q_23) dX12_all_70 ?_
          replace h := ck_eq h; obtain ⟨q_24, h⟩ := h
          refine R_last hx hb hK hB rfl (inb_eq q_24) dX12_all_71 (fun H locs hB => ?_)
          refine lv_goto (tgt := 86) hx hb dX12_all_72 (by decide) ?_
          exact hb_86 x5 (sJ σ1 49 x5.toNatClampNeg (hJ σ1 x2 x5.toNatClampNeg)) H locs ls h hB (lv_sub hl [0, 1, 2, 3, 4, 5] rfl)
  suffices hmain : ∀ (H : Heap) (locs : List Loc) (ls : Array Slot), tB g P σ A s.heap H locs → lv_has ls 6 [(0, .ref (gL g 40)), (1, .ref (gL g k1)), (2, .ref (gL g k2)), (3, .int a3)] → WQ p l e { frames := 1, cells := 0, slots := 0, locals := 26 } s m args below meth c g P A none τ H locs (F0 m 0 ls []) from hmain _ _ ls0 hB0 hl0
  intro H locs ls hB hl
  unfold f_X12_all at h
  refine lv_aload_n hx hb dX12_all_0 rfl (lv_at hl 0 rfl) ?_
  refine lv_aload_n hx hb dX12_all_1 rfl (lv_at hl 0 rfl) ?_
  refine R_get (v := .ref (gL g 46)) hx hb ht ui_X12 hown hK hB (by decide) (cell_8 rfl) rfl 6 (by decide) (ht _ tw922) (fun _ h9 => h9) rfl dX12_all_2 ?_
  refine lv_bipush (v := 6) hx hb dX12_all_5 (by decide) ?_
  refine lv_aload_n hx hb dX12_all_7 rfl (lv_at hl 1 rfl) ?_
  refine lv_iconst (v := 0) hx hb dX12_all_8 (by decide) ?_
  refine lv_iload_n hx hb dX12_all_9 rfl (lv_at hl 3 rfl) ?_
  replace h := b2_eq h; obtain ⟨r_1, s_2, hc_3, h⟩ := h
  refine R_call (rest := []) [.int r_1] (R_runV (n := 5) (As := [.ref (gL g 46), .int (6 : Int32), .ref (gL g k1), .int (0 : Int32), .int a3]) ⟨hx, hb, hml, hown, ht⟩ (fun _ h9 => h9) hK hZ hA hB (c_X12_carries l g P σ 46 (6 : Int32) k1 (0 : Int32) a3 rfl hk_k1 H.size hc_3) (R_recv hK hB (by decide) (cell_8 rfl) rfl) tw1133 tw1130 tw1132 pw36 tw5 ⟨by decide, by decide, by decide⟩ rfl rfl ⟨Nat.le_of_ble_eq_true rfl, Nat.le_of_ble_eq_true rfl⟩ rfl hl.1 rfl (Nat.le_of_ble_eq_true rfl) dX12_all_10 ⟨Nat.zero_le _, Nat.zero_le _⟩) hB hA rfl (fun H locs hB => ?_)
  refine lv_istore (lv' := [(4, .int r_1), (0, .ref (gL g 40)), (1, .ref (gL g k1)), (2, .ref (gL g k2)), (3, .int a3)]) hx hb dX12_all_13 hl (by decide) rfl (fun ls hl => ?_)
  refine lv_aload_n hx hb dX12_all_15 rfl (lv_at hl 1 rfl) ?_
  refine lv_aload_n hx hb dX12_all_16 rfl (lv_at hl 1 rfl) ?_
  refine R_get (v := .ref (gL g 47)) hx hb ht ui_X12 hown hK hB (by decide) (cell_8 rfl) rfl 7 (by decide) (ht _ tw923) (fun _ h9 => h9) rfl dX12_all_17 ?_
  refine lv_bipush (v := 6) hx hb dX12_all_20 (by decide) ?_
  refine lv_aload_n hx hb dX12_all_22 rfl (lv_at hl 2 rfl) ?_
  refine lv_iload hx hb dX12_all_23 (lv_at hl 0 rfl) ?_
  refine lv_iload_n hx hb dX12_all_25 rfl (lv_at hl 4 rfl) ?_
  replace h := b2_eq h; obtain ⟨r_4, s_5, hc_6, h⟩ := h
  refine R_call (rest := []) [.int r_4] (R_runV (n := 5) (As := [.ref (gL g 47), .int (6 : Int32), .ref (gL g k1), .int r_1, .int a3]) ⟨hx, hb, hml, hown, ht⟩ (fun _ h9 => h9) hK hZ hA hB (c_X12_carries l g P s_2 47 (6 : Int32) k1 r_1 a3 rfl hk_k1 H.size hc_6) (R_recv hK hB (by decide) (cell_8 rfl) rfl) tw1133 tw1130 tw1132 pw36 tw5 ⟨by decide, by decide, by decide⟩ rfl rfl ⟨Nat.le_of_ble_eq_true rfl, Nat.le_of_ble_eq_true rfl⟩ rfl hl.1 rfl (Nat.le_of_ble_eq_true rfl) dX12_all_26 ⟨Nat.zero_le _, Nat.zero_le _⟩) hB hA rfl (fun H locs hB => ?_)
  refine lv_istore (lv' := [(4, .int r_4), (0, .ref (gL g 40)), (1, .ref (gL g k1)), (2, .ref (gL g k2)), (3, .int a3)]) hx hb dX12_all_29 hl (by decide) rfl (fun ls hl => ?_)
  refine lv_aload_n hx hb dX12_all_31 rfl (lv_at hl 1 rfl) ?_
  refine lv_aload_n hx hb dX12_all_32 rfl (lv_at hl 1 rfl) ?_
  refine R_get (v := .ref (gL g 48)) hx hb ht ui_X12 hown hK hB (by decide) (cell_8 rfl) rfl 8 (by decide) (ht _ tw924) (fun _ h9 => h9) rfl dX12_all_33 ?_
  refine lv_bipush (v := 60) hx hb dX12_all_36 (by decide) ?_
  refine lv_aload_n hx hb dX12_all_38 rfl (lv_at hl 2 rfl) ?_
  refine lv_iload hx hb dX12_all_39 (lv_at hl 0 rfl) ?_
  refine lv_iload_n hx hb dX12_all_41 rfl (lv_at hl 4 rfl) ?_
  replace h := b2_eq h; obtain ⟨r_7, s_8, hc_9, h⟩ := h
  refine R_call (rest := []) [.int r_7] (R_runV (n := 5) (As := [.ref (gL g 48), .int (60 : Int32), .ref (gL g k1), .int r_4, .int a3]) ⟨hx, hb, hml, hown, ht⟩ (fun _ h9 => h9) hK hZ hA hB (c_X12_carries l g P s_5 48 (60 : Int32) k1 r_4 a3 rfl hk_k1 H.size hc_9) (R_recv hK hB (by decide) (cell_8 rfl) rfl) tw1133 tw1130 tw1132 pw36 tw5 ⟨by decide, by decide, by decide⟩ rfl rfl ⟨Nat.le_of_ble_eq_true rfl, Nat.le_of_ble_eq_true rfl⟩ rfl hl.1 rfl (Nat.le_of_ble_eq_true rfl) dX12_all_42 ⟨Nat.zero_le _, Nat.zero_le _⟩) hB hA rfl (fun H locs hB => ?_)
  refine lv_istore (lv' := [(4, .int r_7), (0, .ref (gL g 40)), (1, .ref (gL g k1)), (2, .ref (gL g k2)), (3, .int a3)]) hx hb dX12_all_45 hl (by decide) rfl (fun ls hl => ?_)
  refine lv_iconst (v := 0) hx hb dX12_all_47 (by decide) ?_
  refine lv_istore (lv' := [(5, .int (0 : Int32)), (4, .int r_7), (0, .ref (gL g 40)), (1, .ref (gL g k1)), (2, .ref (gL g k2)), (3, .int a3)]) hx hb dX12_all_48 hl (by decide) rfl (fun ls hl => ?_)
  exact hL_50 k1 k2 a3 r_7 hk_k1 hk_k2 fuel (0 : Int32) s_8 H locs ls h hB (lv_sub hl [2, 3, 4, 5, 1, 0] rfl)
def f_X12_text_b137 (x3 : Int32) (x4 : Int32) (σ1 : Hp) : Option (Int32 × Hp) := if x4 = 0 then b2 (f_X12_all 63 65 (1 : Int32) σ1) (fun r_14 s_15 => b2 (f_X12_no (-6 : Int32) (sI s_15 40 4 (hI s_15 40 22))) (fun r_17 s_18 => some (r_17, s_18))) else some (x3, σ1)
def f_X12_text_t66 (x3 : Int32) (x4 : Int32) (σ1 : Hp) : Option ((Int32 × Int32 × Hp) ⊕ (Int32 × Hp)) := if x4 = 0 then ex (f_X12_text_b137 x3 x4 σ1) else if (hI σ1 40 20) ≤ (hI σ1 40 19) then ex (f_X12_text_b137 x3 x4 σ1) else ck (inb ((hI σ1 40 18) + (hI σ1 40 19)) 1280 = true) (if ((hJ σ1 54 ((hI σ1 40 18) + (hI σ1 40 19)).toNatClampNeg).toInt32) = (59 : Int32) then b2 (f_X12_item (sI σ1 40 19 ((hI σ1 40 19) + (1 : Int32)))) (fun r_23 s_24 => some (.inl ((x3 + 1), r_23, s_24))) else b2 (f_X12_wrong (hI σ1 40 19) σ1) (fun r_26 s_27 => some (.inl (x3, r_26, s_27))))
def f_X12_text_s66 (v : (Int32 × Int32 × Hp)) : Option ((Int32 × Int32 × Hp) ⊕ (Int32 × Hp)) := f_X12_text_t66 v.1 v.2.1 v.2.2
def f_X12_text (a1 : Int32) (σ : Hp) : Option (Int32 × Hp) := b2 (f_X12_wanted a1 σ) (fun r_1 s_2 => if r_1 = 0 then b2 (f_X12_all 63 65 (0 : Int32) s_2) (fun r_5 s_6 => ck (inb a1 8 = true) (b2 (f_X12_item (sI (sI (sI (sI s_6 40 18 ((160 : Int32) * a1)) 40 19 (0 : Int32)) 40 20 (hI (sI (sI s_6 40 18 ((160 : Int32) * a1)) 40 19 (0 : Int32)) 52 a1.toNatClampNeg)) 40 4 (-1 : Int32))) (fun r_9 s_10 => iter (f_X12_text_s66) fuel ((1 : Int32), r_9, s_10)))) else b2 (f_X12_no r_1 s_2) (fun r_29 s_30 => some (r_29, s_30)))
set_option maxHeartbeats 4000000 in
set_option maxRecDepth 100000 in
theorem c_X12_text (l : Launch) (g : tG) (P : Nat → Nat) (σ : Hp) (a1 : Int32) (sz : Nat) {r : Int32} {τ : Hp} (h : f_X12_text a1 σ = some (r, τ)) : Met l yX12_text (Cond.code yX12_text cX12_text 5 (some .int) :: tblG) ({ frames := 4, cells := 0, slots := 0, locals := 107 }) (va_Pc [.ref (gL g 40), .int a1] (tPre g P σ sz)) (tQ (some (.int r)) (tPost g P τ (va_A (wC g P σ) sz)) (va_A (wC g P σ) sz)) 0 0 (va_A (wC g P σ) sz) := by
  refine T_start (B := fun A => tPost g P τ A) (by decide) (Nat.le_of_ble_eq_true rfl) ?_
  intro p e s m args below meth c ls0 A hx hb hml hr hown hlocks ht hnm hK hZ hA hB0 hl0
  have hb_137 : ∀ (x3 : Int32) (x4 : Int32) (σ1 : Hp) (H : Heap) (locs : List Loc) (ls : Array Slot), f_X12_text_b137 x3 x4 σ1 = some (r, τ) → tB g P σ1 A s.heap H locs → lv_has ls 5 [(0, .ref (gL g 40)), (3, .int x3), (4, .int x4)] → WQ p l e { frames := 4, cells := 0, slots := 0, locals := 107 } s m args below meth c g P A (some (.int r)) τ H locs (F0 m 137 ls []) := by
    intro x3 x4 σ1 H locs ls h hB hl
    unfold f_X12_text_b137 at h
    refine lv_iload hx hb dX12_text_137 (lv_at hl 2 rfl) ?_
    refine lv_if_eq (tgt := 144) hx hb dX12_text_139 (by decide) (fun c_13 => ?_) (fun c_13 => ?_)
    · replace h := itp h c_13
      refine lv_aload_n hx hb dX12_text_144 rfl (lv_at hl 0 rfl) ?_
      refine lv_aload_n hx hb dX12_text_145 rfl (lv_at hl 0 rfl) ?_
      refine R_get (v := .ref (gL g 63)) hx hb ht ui_X12 hown hK hB (by decide) (cell_8 rfl) rfl 23 (by decide) (ht _ tw939) (fun _ h9 => h9) rfl dX12_text_146 ?_
      refine lv_aload_n hx hb dX12_text_149 rfl (lv_at hl 0 rfl) ?_
      refine R_get (v := .ref (gL g 65)) hx hb ht ui_X12 hown hK hB (by decide) (cell_8 rfl) rfl 25 (by decide) (ht _ tw941) (fun _ h9 => h9) rfl dX12_text_150 ?_
      refine lv_iconst (v := 1) hx hb dX12_text_153 (by decide) ?_
      replace h := b2_eq h; obtain ⟨r_14, s_15, hc_16, h⟩ := h
      refine R_call (rest := []) [] (R_runV (n := 3) (As := [.ref (gL g 63), .ref (gL g 65), .int (1 : Int32)]) ⟨hx, hb, hml, hown, ht⟩ (fun _ h9 => h9) hK hZ hA hB (c_X12_all l g P σ1 63 65 (1 : Int32) rfl rfl H.size hc_16) (R_recv hK hB (by decide) (cell_8 rfl) rfl) tw1129 tw1126 tw1128 pw35 tw5 ⟨by decide, by decide, by decide⟩ rfl rfl ⟨Nat.le_of_ble_eq_true rfl, Nat.le_of_ble_eq_true rfl⟩ rfl hl.1 rfl (Nat.le_of_ble_eq_true rfl) dX12_text_154 ⟨Nat.zero_le _, Nat.zero_le _⟩) hB hA rfl (fun H locs hB => ?_)
      refine lv_aload_n hx hb dX12_text_157 rfl (lv_at hl 0 rfl) ?_
      refine lv_aload_n hx hb dX12_text_158 rfl (lv_at hl 0 rfl) ?_
      refine R_get (v := .int (hI s_15 40 22)) hx hb ht ui_X12 hown hK hB (by decide) (cell_8 rfl) rfl 22 (by decide) (ht _ tw938) (fun _ h9 => h9) rfl dX12_text_159 ?_
      refine R_putI (v := (hI s_15 40 22)) (ty := .int) hx hb ht ui_X12 tyX12 tyX12_ok nmX12 hown hK hB (by decide) (cell_8 rfl) rfl 4 (by decide) (ht _ tw920) (fun _ h9 => h9) rfl (by decide +kernel) rfl rfl (Nat.le_of_ble_eq_true rfl) (st8_4 rfl) dX12_text_162 (fun H locs hB => ?_)
      refine lv_aload_n hx hb dX12_text_165 rfl (lv_at hl 0 rfl) ?_
      refine lv_bipush (v := -6) hx hb dX12_text_166 (by decide) ?_
      replace h := b2_eq h; obtain ⟨r_17, s_18, hc_19, h⟩ := h
      refine R_call (rest := []) [.int r_17] (R_runV (n := 1) (As := [.int (-6 : Int32)]) ⟨hx, hb, hml, hown, ht⟩ (fun _ h9 => h9) hK hZ hA hB (c_X12_no l g P (sI s_15 40 4 (hI s_15 40 22)) (-6 : Int32) H.size hc_19) (R_recv hK hB (by decide) (cell_8 rfl) rfl) tw1042 tw1039 tw1041 pw26 tw5 ⟨by decide, by decide, by decide⟩ rfl rfl ⟨Nat.le_of_ble_eq_true rfl, Nat.le_of_ble_eq_true rfl⟩ rfl hl.1 rfl (Nat.le_of_ble_eq_true rfl) dX12_text_168 ⟨Nat.zero_le _, Nat.zero_le _⟩) hB hA rfl (fun H locs hB => ?_)
      obtain ⟨rfl, rfl⟩ := Prod.mk.inj (Option.some.inj h)
      exact W.iret hx hb hr (R_end hB) hB.2.2.2.2 dX12_text_171
    · replace h := itn h c_13
      refine lv_iload_n hx hb dX12_text_142 rfl (lv_at hl 1 rfl) ?_
      obtain ⟨rfl, rfl⟩ := Prod.mk.inj (Option.some.inj h)
      exact W.iret hx hb hr (R_end hB) hB.2.2.2.2 dX12_text_143
  have hL_66 : ∀ (n : Nat) (x3 : Int32) (x4 : Int32) (σ1 : Hp) (H : Heap) (locs : List Loc) (ls : Array Slot), iter (f_X12_text_s66) n (x3, x4, σ1) = some (r, τ) → tB g P σ1 A s.heap H locs → lv_has ls 5 [(0, .ref (gL g 40)), (3, .int x3), (4, .int x4)] → WQ p l e { frames := 4, cells := 0, slots := 0, locals := 107 } s m args below meth c g P A (some (.int r)) τ H locs (F0 m 66 ls []) := by
    intro n
    induction n with
    | zero =>
      intro x3 x4 σ1 H locs ls h hB hl
      exact (iter_0 h).elim
    | succ n ih1 =>
      intro x3 x4 σ1 H locs ls h hB hl
      replace h := iter_eq h; obtain ⟨z1, hh1, hx1⟩ := h
      have h : f_X12_text_t66 x3 x4 σ1 = some z1 := hh1
      clear hh1
      unfold f_X12_text_t66 at h
      refine lv_iload hx hb dX12_text_66 (lv_at hl 2 rfl) ?_
      refine lv_if_eq (tgt := 137) hx hb dX12_text_68 (by decide) (fun c_12 => ?_) (fun c_12 => ?_)
      · replace h := itp h c_12
        replace h := ex_eq h; obtain ⟨b1, h, hz1⟩ := h
        subst hz1
        have hz1 := (itk_inr hx1).symm
        subst hz1
        exact hb_137 x3 x4 σ1 H locs ls h hB (lv_sub hl [0, 1, 2] rfl)
      · replace h := itn h c_12
        refine lv_aload_n hx hb dX12_text_71 rfl (lv_at hl 0 rfl) ?_
        refine R_get (v := .int (hI σ1 40 19)) hx hb ht ui_X12 hown hK hB (by decide) (cell_8 rfl) rfl 19 (by decide) (ht _ tw935) (fun _ h9 => h9) rfl dX12_text_72 ?_
        refine lv_aload_n hx hb dX12_text_75 rfl (lv_at hl 0 rfl) ?_
        refine R_get (v := .int (hI σ1 40 20)) hx hb ht ui_X12 hown hK hB (by decide) (cell_8 rfl) rfl 20 (by decide) (ht _ tw936) (fun _ h9 => h9) rfl dX12_text_76 ?_
        refine lv_icmp_ge (tgt := 137) hx hb dX12_text_79 (by decide) (fun c_20 => ?_) (fun c_20 => ?_)
        · replace h := itp h c_20
          replace h := ex_eq h; obtain ⟨b1, h, hz1⟩ := h
          subst hz1
          have hz1 := (itk_inr hx1).symm
          subst hz1
          exact hb_137 x3 x4 σ1 H locs ls h hB (lv_sub hl [0, 1, 2] rfl)
        · replace h := itn h c_20
          refine lv_aload_n hx hb dX12_text_82 rfl (lv_at hl 0 rfl) ?_
          refine R_get (v := .ref (gL g 54)) hx hb ht ui_X12 hown hK hB (by decide) (cell_8 rfl) rfl 14 (by decide) (ht _ tw930) (fun _ h9 => h9) rfl dX12_text_83 ?_
          refine lv_aload_n hx hb dX12_text_86 rfl (lv_at hl 0 rfl) ?_
          refine R_get (v := .int (hI σ1 40 18)) hx hb ht ui_X12 hown hK hB (by decide) (cell_8 rfl) rfl 18 (by decide) (ht _ tw934) (fun _ h9 => h9) rfl dX12_text_87 ?_
          refine lv_aload_n hx hb dX12_text_90 rfl (lv_at hl 0 rfl) ?_
          refine R_get (v := .int (hI σ1 40 19)) hx hb ht ui_X12 hown hK hB (by decide) (cell_8 rfl) rfl 19 (by decide) (ht _ tw935) (fun _ h9 => h9) rfl dX12_text_91 ?_
          refine lv_iadd hx hb dX12_text_94 ?_
          replace h := ck_eq h; obtain ⟨q_21, h⟩ := h
          refine R_lald hx hb hK hB rfl (inb_eq q_21) dX12_text_95 ?_
          refine lv_l2i (v := (hJ σ1 54 ((hI σ1 40 18) + (hI σ1 40 19)).toNatClampNeg).toInt32) hx hb dX12_text_96 rfl ?_
          refine lv_bipush (v := 59) hx hb dX12_text_97 (by decide) ?_
          refine lv_icmp_eq (tgt := 115) hx hb dX12_text_99 (by decide) (fun c_22 => ?_) (fun c_22 => ?_)
          · replace h := itp h c_22
            refine lv_aload_n hx hb dX12_text_115 rfl (lv_at hl 0 rfl) ?_
            refine lv_dup hx hb dX12_text_116 rfl ?_
            refine R_get (v := .int (hI σ1 40 19)) hx hb ht ui_X12 hown hK hB (by decide) (cell_8 rfl) rfl 19 (by decide) (ht _ tw935) (fun _ h9 => h9) rfl dX12_text_117 ?_
            refine lv_iconst (v := 1) hx hb dX12_text_120 (by decide) ?_
            refine lv_iadd hx hb dX12_text_121 ?_
            refine R_putI (v := ((hI σ1 40 19) + (1 : Int32))) (ty := .int) hx hb ht ui_X12 tyX12 tyX12_ok nmX12 hown hK hB (by decide) (cell_8 rfl) rfl 19 (by decide) (ht _ tw935) (fun _ h9 => h9) rfl (by decide +kernel) rfl rfl (Nat.le_of_ble_eq_true rfl) (st8_19 rfl) dX12_text_122 (fun H locs hB => ?_)
            refine lv_iinc (v := x3 + 1) (lv' := [(3, .int (x3 + 1)), (0, .ref (gL g 40)), (4, .int x4)]) hx hb dX12_text_125 hl (k := 1) rfl rfl (by decide) rfl (fun ls hl => ?_)
            refine lv_aload_n hx hb dX12_text_128 rfl (lv_at hl 1 rfl) ?_
            replace h := b2_eq h; obtain ⟨r_23, s_24, hc_25, h⟩ := h
            refine R_call (rest := []) [.int r_23] (R_runV (n := 0) (As := []) ⟨hx, hb, hml, hown, ht⟩ (fun _ h9 => h9) hK hZ hA hB (c_X12_item l g P (sI σ1 40 19 ((hI σ1 40 19) + (1 : Int32))) H.size hc_25) (R_recv hK hB (by decide) (cell_8 rfl) rfl) tw1137 tw1134 tw1136 pw37 tw5 ⟨by decide, by decide, by decide⟩ rfl rfl ⟨Nat.le_of_ble_eq_true rfl, Nat.le_of_ble_eq_true rfl⟩ rfl hl.1 rfl (Nat.le_of_ble_eq_true rfl) dX12_text_129 ⟨Nat.zero_le _, Nat.zero_le _⟩) hB hA rfl (fun H locs hB => ?_)
            refine lv_istore (lv' := [(4, .int r_23), (3, .int (x3 + 1)), (0, .ref (gL g 40))]) hx hb dX12_text_132 hl (by decide) rfl (fun ls hl => ?_)
            refine lv_goto (tgt := 66) hx hb dX12_text_134 (by decide) ?_
            obtain rfl := Option.some.inj h
            exact ih1 (x3 + 1) r_23 s_24 H locs ls hx1 hB (lv_sub hl [2, 1, 0] rfl)
          · replace h := itn h c_22
            refine lv_aload_n hx hb dX12_text_102 rfl (lv_at hl 0 rfl) ?_
            refine lv_aload_n hx hb dX12_text_103 rfl (lv_at hl 0 rfl) ?_
            refine R_get (v := .int (hI σ1 40 19)) hx hb ht ui_X12 hown hK hB (by decide) (cell_8 rfl) rfl 19 (by decide) (ht _ tw935) (fun _ h9 => h9) rfl dX12_text_104 ?_
            replace h := b2_eq h; obtain ⟨r_26, s_27, hc_28, h⟩ := h
            refine R_call (rest := []) [.int r_26] (R_runV (n := 1) (As := [.int (hI σ1 40 19)]) ⟨hx, hb, hml, hown, ht⟩ (fun _ h9 => h9) hK hZ hA hB (c_X12_wrong l g P σ1 (hI σ1 40 19) H.size hc_28) (R_recv hK hB (by decide) (cell_8 rfl) rfl) tw1145 tw1142 tw1144 pw39 tw5 ⟨by decide, by decide, by decide⟩ rfl rfl ⟨Nat.le_of_ble_eq_true rfl, Nat.le_of_ble_eq_true rfl⟩ rfl hl.1 rfl (Nat.le_of_ble_eq_true rfl) dX12_text_107 ⟨Nat.zero_le _, Nat.zero_le _⟩) hB hA rfl (fun H locs hB => ?_)
            refine lv_istore (lv' := [(4, .int r_26), (0, .ref (gL g 40)), (3, .int x3)]) hx hb dX12_text_110 hl (by decide) rfl (fun ls hl => ?_)
            refine lv_goto (tgt := 66) hx hb dX12_text_112 (by decide) ?_
            obtain rfl := Option.some.inj h
            exact ih1 x3 r_26 s_27 H locs ls hx1 hB (lv_sub hl [1, 2, 0] rfl)
  suffices hmain : ∀ (H : Heap) (locs : List Loc) (ls : Array Slot), tB g P σ A s.heap H locs → lv_has ls 5 [(0, .ref (gL g 40)), (1, .int a1)] → WQ p l e { frames := 4, cells := 0, slots := 0, locals := 107 } s m args below meth c g P A (some (.int r)) τ H locs (F0 m 0 ls []) from hmain _ _ ls0 hB0 hl0
  intro H locs ls hB hl
  unfold f_X12_text at h
  refine lv_aload_n hx hb dX12_text_0 rfl (lv_at hl 0 rfl) ?_
  refine lv_iload_n hx hb dX12_text_1 rfl (lv_at hl 1 rfl) ?_
  replace h := b2_eq h; obtain ⟨r_1, s_2, hc_3, h⟩ := h
  refine R_call (rest := []) [.int r_1] (R_runV (n := 1) (As := [.int a1]) ⟨hx, hb, hml, hown, ht⟩ (fun _ h9 => h9) hK hZ hA hB (c_X12_wanted l g P σ a1 H.size hc_3) (R_recv hK hB (by decide) (cell_8 rfl) rfl) tw1125 tw1122 tw1124 pw34 tw5 ⟨by decide, by decide, by decide⟩ rfl rfl ⟨Nat.le_of_ble_eq_true rfl, Nat.le_of_ble_eq_true rfl⟩ rfl hl.1 rfl (Nat.le_of_ble_eq_true rfl) dX12_text_2 ⟨Nat.zero_le _, Nat.zero_le _⟩) hB hA rfl (fun H locs hB => ?_)
  refine lv_istore_n (lv' := [(2, .int r_1), (0, .ref (gL g 40)), (1, .int a1)]) hx hb dX12_text_5 rfl hl (by decide) rfl (fun ls hl => ?_)
  refine lv_iload_n hx hb dX12_text_6 rfl (lv_at hl 0 rfl) ?_
  refine lv_if_eq (tgt := 16) hx hb dX12_text_7 (by decide) (fun c_4 => ?_) (fun c_4 => ?_)
  · replace h := itp h c_4
    refine lv_aload_n hx hb dX12_text_16 rfl (lv_at hl 1 rfl) ?_
    refine lv_aload_n hx hb dX12_text_17 rfl (lv_at hl 1 rfl) ?_
    refine R_get (v := .ref (gL g 63)) hx hb ht ui_X12 hown hK hB (by decide) (cell_8 rfl) rfl 23 (by decide) (ht _ tw939) (fun _ h9 => h9) rfl dX12_text_18 ?_
    refine lv_aload_n hx hb dX12_text_21 rfl (lv_at hl 1 rfl) ?_
    refine R_get (v := .ref (gL g 65)) hx hb ht ui_X12 hown hK hB (by decide) (cell_8 rfl) rfl 25 (by decide) (ht _ tw941) (fun _ h9 => h9) rfl dX12_text_22 ?_
    refine lv_iconst (v := 0) hx hb dX12_text_25 (by decide) ?_
    replace h := b2_eq h; obtain ⟨r_5, s_6, hc_7, h⟩ := h
    refine R_call (rest := []) [] (R_runV (n := 3) (As := [.ref (gL g 63), .ref (gL g 65), .int (0 : Int32)]) ⟨hx, hb, hml, hown, ht⟩ (fun _ h9 => h9) hK hZ hA hB (c_X12_all l g P s_2 63 65 (0 : Int32) rfl rfl H.size hc_7) (R_recv hK hB (by decide) (cell_8 rfl) rfl) tw1129 tw1126 tw1128 pw35 tw5 ⟨by decide, by decide, by decide⟩ rfl rfl ⟨Nat.le_of_ble_eq_true rfl, Nat.le_of_ble_eq_true rfl⟩ rfl hl.1 rfl (Nat.le_of_ble_eq_true rfl) dX12_text_26 ⟨Nat.zero_le _, Nat.zero_le _⟩) hB hA rfl (fun H locs hB => ?_)
    refine lv_aload_n hx hb dX12_text_29 rfl (lv_at hl 1 rfl) ?_
    refine lv_sipush (v := 160) hx hb dX12_text_30 (by decide) ?_
    refine lv_iload_n hx hb dX12_text_33 rfl (lv_at hl 2 rfl) ?_
    refine lv_imul hx hb dX12_text_34 ?_
    refine R_putI (v := ((160 : Int32) * a1)) (ty := .int) hx hb ht ui_X12 tyX12 tyX12_ok nmX12 hown hK hB (by decide) (cell_8 rfl) rfl 18 (by decide) (ht _ tw934) (fun _ h9 => h9) rfl (by decide +kernel) rfl rfl (Nat.le_of_ble_eq_true rfl) (st8_18 rfl) dX12_text_35 (fun H locs hB => ?_)
    refine lv_aload_n hx hb dX12_text_38 rfl (lv_at hl 1 rfl) ?_
    refine lv_iconst (v := 0) hx hb dX12_text_39 (by decide) ?_
    refine R_putI (v := (0 : Int32)) (ty := .int) hx hb ht ui_X12 tyX12 tyX12_ok nmX12 hown hK hB (by decide) (cell_8 rfl) rfl 19 (by decide) (ht _ tw935) (fun _ h9 => h9) rfl (by decide +kernel) rfl rfl (Nat.le_of_ble_eq_true rfl) (st8_19 rfl) dX12_text_40 (fun H locs hB => ?_)
    refine lv_aload_n hx hb dX12_text_43 rfl (lv_at hl 1 rfl) ?_
    refine lv_aload_n hx hb dX12_text_44 rfl (lv_at hl 1 rfl) ?_
    refine R_get (v := .ref (gL g 52)) hx hb ht ui_X12 hown hK hB (by decide) (cell_8 rfl) rfl 12 (by decide) (ht _ tw928) (fun _ h9 => h9) rfl dX12_text_45 ?_
    refine lv_iload_n hx hb dX12_text_48 rfl (lv_at hl 2 rfl) ?_
    replace h := ck_eq h; obtain ⟨q_8, h⟩ := h
    refine R_iald hx hb hK hB rfl (inb_eq q_8) dX12_text_49 ?_
    refine R_putI (v := (hI (sI (sI s_6 40 18 ((160 : Int32) * a1)) 40 19 (0 : Int32)) 52 a1.toNatClampNeg)) (ty := .int) hx hb ht ui_X12 tyX12 tyX12_ok nmX12 hown hK hB (by decide) (cell_8 rfl) rfl 20 (by decide) (ht _ tw936) (fun _ h9 => h9) rfl (by decide +kernel) rfl rfl (Nat.le_of_ble_eq_true rfl) (st8_20 rfl) dX12_text_50 (fun H locs hB => ?_)
    refine lv_aload_n hx hb dX12_text_53 rfl (lv_at hl 1 rfl) ?_
    refine lv_iconst (v := -1) hx hb dX12_text_54 (by decide) ?_
    refine R_putI (v := (-1 : Int32)) (ty := .int) hx hb ht ui_X12 tyX12 tyX12_ok nmX12 hown hK hB (by decide) (cell_8 rfl) rfl 4 (by decide) (ht _ tw920) (fun _ h9 => h9) rfl (by decide +kernel) rfl rfl (Nat.le_of_ble_eq_true rfl) (st8_4 rfl) dX12_text_55 (fun H locs hB => ?_)
    refine lv_iconst (v := 1) hx hb dX12_text_58 (by decide) ?_
    refine lv_istore_n (lv' := [(3, .int (1 : Int32)), (2, .int r_1), (0, .ref (gL g 40)), (1, .int a1)]) hx hb dX12_text_59 rfl hl (by decide) rfl (fun ls hl => ?_)
    refine lv_aload_n hx hb dX12_text_60 rfl (lv_at hl 2 rfl) ?_
    replace h := b2_eq h; obtain ⟨r_9, s_10, hc_11, h⟩ := h
    refine R_call (rest := []) [.int r_9] (R_runV (n := 0) (As := []) ⟨hx, hb, hml, hown, ht⟩ (fun _ h9 => h9) hK hZ hA hB (c_X12_item l g P (sI (sI (sI (sI s_6 40 18 ((160 : Int32) * a1)) 40 19 (0 : Int32)) 40 20 (hI (sI (sI s_6 40 18 ((160 : Int32) * a1)) 40 19 (0 : Int32)) 52 a1.toNatClampNeg)) 40 4 (-1 : Int32)) H.size hc_11) (R_recv hK hB (by decide) (cell_8 rfl) rfl) tw1137 tw1134 tw1136 pw37 tw5 ⟨by decide, by decide, by decide⟩ rfl rfl ⟨Nat.le_of_ble_eq_true rfl, Nat.le_of_ble_eq_true rfl⟩ rfl hl.1 rfl (Nat.le_of_ble_eq_true rfl) dX12_text_61 ⟨Nat.zero_le _, Nat.zero_le _⟩) hB hA rfl (fun H locs hB => ?_)
    refine lv_istore (lv' := [(4, .int r_9), (3, .int (1 : Int32)), (2, .int r_1), (0, .ref (gL g 40)), (1, .int a1)]) hx hb dX12_text_64 hl (by decide) rfl (fun ls hl => ?_)
    exact hL_66 fuel (1 : Int32) r_9 s_10 H locs ls h hB (lv_sub hl [3, 1, 0] rfl)
  · replace h := itn h c_4
    refine lv_aload_n hx hb dX12_text_10 rfl (lv_at hl 1 rfl) ?_
    refine lv_iload_n hx hb dX12_text_11 rfl (lv_at hl 0 rfl) ?_
    replace h := b2_eq h; obtain ⟨r_29, s_30, hc_31, h⟩ := h
    refine R_call (rest := []) [.int r_29] (R_runV (n := 1) (As := [.int r_1]) ⟨hx, hb, hml, hown, ht⟩ (fun _ h9 => h9) hK hZ hA hB (c_X12_no l g P s_2 r_1 H.size hc_31) (R_recv hK hB (by decide) (cell_8 rfl) rfl) tw1042 tw1039 tw1041 pw26 tw5 ⟨by decide, by decide, by decide⟩ rfl rfl ⟨Nat.le_of_ble_eq_true rfl, Nat.le_of_ble_eq_true rfl⟩ rfl hl.1 rfl (Nat.le_of_ble_eq_true rfl) dX12_text_12 ⟨Nat.zero_le _, Nat.zero_le _⟩) hB hA rfl (fun H locs hB => ?_)
    obtain ⟨rfl, rfl⟩ := Prod.mk.inj (Option.some.inj h)
    exact W.iret hx hb hr (R_end hB) hB.2.2.2.2 dX12_text_15
def f_X12_fault (σ : Hp) : Option (Int32 × Hp) := some ((hI σ 40 4), σ)
set_option maxHeartbeats 4000000 in
set_option maxRecDepth 100000 in
theorem c_X12_fault (l : Launch) (g : tG) (P : Nat → Nat) (σ : Hp) (sz : Nat) {r : Int32} {τ : Hp} (h : f_X12_fault σ = some (r, τ)) : Met l yX12_fault (Cond.code yX12_fault cX12_fault 1 (some .int) :: tblG) ({ frames := 0, cells := 0, slots := 0, locals := 0 }) (va_Pc [.ref (gL g 40)] (tPre g P σ sz)) (tQ (some (.int r)) (tPost g P τ (va_A (wC g P σ) sz)) (va_A (wC g P σ) sz)) 0 0 (va_A (wC g P σ) sz) := by
  refine T_start (B := fun A => tPost g P τ A) (by decide) (Nat.le_of_ble_eq_true rfl) ?_
  intro p e s m args below meth c ls0 A hx hb hml hr hown hlocks ht hnm hK hZ hA hB0 hl0
  suffices hmain : ∀ (H : Heap) (locs : List Loc) (ls : Array Slot), tB g P σ A s.heap H locs → lv_has ls 1 [(0, .ref (gL g 40))] → WQ p l e { frames := 0, cells := 0, slots := 0, locals := 0 } s m args below meth c g P A (some (.int r)) τ H locs (F0 m 0 ls []) from hmain _ _ ls0 hB0 hl0
  intro H locs ls hB hl
  unfold f_X12_fault at h
  refine lv_aload_n hx hb dX12_fault_0 rfl (lv_at hl 0 rfl) ?_
  refine R_get (v := .int (hI σ 40 4)) hx hb ht ui_X12 hown hK hB (by decide) (cell_8 rfl) rfl 4 (by decide) (ht _ tw920) (fun _ h9 => h9) rfl dX12_fault_1 ?_
  obtain ⟨rfl, rfl⟩ := Prod.mk.inj (Option.some.inj h)
  exact W.iret hx hb hr (R_end hB) hB.2.2.2.2 dX12_fault_4
def f_X12_isAlike (a1 : Int64) (σ : Hp) : Option (Int32 × Hp) := b2 (f_X12_turnedOf a1 σ) (fun r_1 s_2 => if (lg_cmp r_1 a1) = 0 then some ((1 : Int32), s_2) else some ((0 : Int32), s_2))
set_option maxHeartbeats 4000000 in
set_option maxRecDepth 100000 in
theorem c_X12_isAlike (l : Launch) (g : tG) (P : Nat → Nat) (σ : Hp) (a1 : Int64) (sz : Nat) {r : Int32} {τ : Hp} (h : f_X12_isAlike a1 σ = some (r, τ)) : Met l yX12_isAlike (Cond.code yX12_isAlike cX12_isAlike 3 (some .boolean) :: tblG) ({ frames := 1, cells := 0, slots := 0, locals := 26 }) (va_Pc [.ref (gL g 40), .long a1] (tPre g P σ sz)) (tQ (some (.int r)) (tPost g P τ (va_A (wC g P σ) sz)) (va_A (wC g P σ) sz)) 0 0 (va_A (wC g P σ) sz) := by
  refine T_start (B := fun A => tPost g P τ A) (by decide) (Nat.le_of_ble_eq_true rfl) ?_
  intro p e s m args below meth c ls0 A hx hb hml hr hown hlocks ht hnm hK hZ hA hB0 hl0
  suffices hmain : ∀ (H : Heap) (locs : List Loc) (ls : Array Slot), tB g P σ A s.heap H locs → lv_has ls 3 [(0, .ref (gL g 40)), (1, .long a1)] → WQ p l e { frames := 1, cells := 0, slots := 0, locals := 26 } s m args below meth c g P A (some (.int r)) τ H locs (F0 m 0 ls []) from hmain _ _ ls0 hB0 hl0
  intro H locs ls hB hl
  unfold f_X12_isAlike at h
  refine lv_aload_n hx hb dX12_isAlike_0 rfl (lv_at hl 0 rfl) ?_
  refine lv_lload_n hx hb dX12_isAlike_1 rfl (lv_at hl 1 rfl) ?_
  replace h := b2_eq h; obtain ⟨r_1, s_2, hc_3, h⟩ := h
  refine R_call (rest := []) [.long r_1] (R_runV (n := 1) (As := [.long a1]) ⟨hx, hb, hml, hown, ht⟩ (fun _ h9 => h9) hK hZ hA hB (c_X12_turnedOf l g P σ a1 H.size hc_3) (R_recv hK hB (by decide) (cell_8 rfl) rfl) tw1079 tw1076 tw1078 pw29 tw5 ⟨by decide, by decide, by decide⟩ rfl rfl ⟨Nat.le_of_ble_eq_true rfl, Nat.le_of_ble_eq_true rfl⟩ rfl hl.1 rfl (Nat.le_of_ble_eq_true rfl) dX12_isAlike_2 ⟨Nat.zero_le _, Nat.zero_le _⟩) hB hA rfl (fun H locs hB => ?_)
  refine lv_lload_n hx hb dX12_isAlike_5 rfl (lv_at hl 1 rfl) ?_
  refine W.lcmp hx hb dX12_isAlike_6 ?_
  refine lv_if_ne (tgt := 14) hx hb dX12_isAlike_7 (by decide) (fun c_4 => ?_) (fun c_4 => ?_)
  · replace h := itn h c_4
    refine lv_iconst (v := 0) hx hb dX12_isAlike_14 (by decide) ?_
    obtain ⟨rfl, rfl⟩ := Prod.mk.inj (Option.some.inj h)
    exact W.zret hx hb hr rfl (R_end hB) hB.2.2.2.2 dX12_isAlike_15
  · replace h := itp h c_4
    refine lv_iconst (v := 1) hx hb dX12_isAlike_10 (by decide) ?_
    refine lv_goto (tgt := 15) hx hb dX12_isAlike_11 (by decide) ?_
    obtain ⟨rfl, rfl⟩ := Prod.mk.inj (Option.some.inj h)
    exact W.zret hx hb hr rfl (R_end hB) hB.2.2.2.2 dX12_isAlike_15
def f_X12_checkOf_t12 (x3 : Int32) (x4 : Int32) (x5 : Int32) (σ1 : Hp) : Option ((Int32 × Int32 × Hp) ⊕ (Int32 × Hp)) := if x3 ≤ x5 then ex (ck (¬ (hI σ1 40 2) = 0) (some ((x4 - x4 / (hI σ1 40 2) * (hI σ1 40 2)), σ1))) else ck (inb x5 64 = true) (some (.inl ((x4 + ((hI σ1 67 x5.toNatClampNeg) * (x5 + (1 : Int32)))), (x5 + 1), σ1)))
def f_X12_checkOf_s12 (x3 : Int32) (v : (Int32 × Int32 × Hp)) : Option ((Int32 × Int32 × Hp) ⊕ (Int32 × Hp)) := f_X12_checkOf_t12 x3 v.1 v.2.1 v.2.2
def f_X12_checkOf (a1 : Int64) (σ : Hp) : Option (Int32 × Hp) := b2 (f_X12_figures a1 σ) (fun r_2 s_3 => iter (f_X12_checkOf_s12 r_2) fuel ((0 : Int32), (0 : Int32), s_3))
set_option maxHeartbeats 4000000 in
set_option maxRecDepth 100000 in
theorem c_X12_checkOf (l : Launch) (g : tG) (P : Nat → Nat) (σ : Hp) (a1 : Int64) (sz : Nat) {r : Int32} {τ : Hp} (h : f_X12_checkOf a1 σ = some (r, τ)) : Met l yX12_checkOf (Cond.code yX12_checkOf cX12_checkOf 6 (some .int) :: tblG) ({ frames := 1, cells := 0, slots := 0, locals := 25 }) (va_Pc [.ref (gL g 40), .long a1] (tPre g P σ sz)) (tQ (some (.int r)) (tPost g P τ (va_A (wC g P σ) sz)) (va_A (wC g P σ) sz)) 0 0 (va_A (wC g P σ) sz) := by
  refine T_start (B := fun A => tPost g P τ A) (by decide) (Nat.le_of_ble_eq_true rfl) ?_
  intro p e s m args below meth c ls0 A hx hb hml hr hown hlocks ht hnm hK hZ hA hB0 hl0
  have hL_12 : ∀ (x3 : Int32) (n : Nat) (x4 : Int32) (x5 : Int32) (σ1 : Hp) (H : Heap) (locs : List Loc) (ls : Array Slot), iter (f_X12_checkOf_s12 x3) n (x4, x5, σ1) = some (r, τ) → tB g P σ1 A s.heap H locs → lv_has ls 6 [(0, .ref (gL g 40)), (3, .int x3), (4, .int x4), (5, .int x5)] → WQ p l e { frames := 1, cells := 0, slots := 0, locals := 25 } s m args below meth c g P A (some (.int r)) τ H locs (F0 m 12 ls []) := by
    intro x3 n
    induction n with
    | zero =>
      intro x4 x5 σ1 H locs ls h hB hl
      exact (iter_0 h).elim
    | succ n ih1 =>
      intro x4 x5 σ1 H locs ls h hB hl
      replace h := iter_eq h; obtain ⟨z1, hh1, hx1⟩ := h
      have h : f_X12_checkOf_t12 x3 x4 x5 σ1 = some z1 := hh1
      clear hh1
      unfold f_X12_checkOf_t12 at h
      refine lv_iload hx hb dX12_checkOf_12 (lv_at hl 3 rfl) ?_
      refine lv_iload_n hx hb dX12_checkOf_14 rfl (lv_at hl 1 rfl) ?_
      refine lv_icmp_ge (tgt := 41) hx hb dX12_checkOf_15 (by decide) (fun c_5 => ?_) (fun c_5 => ?_)
      · replace h := itp h c_5
        replace h := ex_eq h; obtain ⟨b1, h, hz1⟩ := h
        subst hz1
        have hz1 := (itk_inr hx1).symm
        subst hz1
        refine lv_iload hx hb dX12_checkOf_41 (lv_at hl 2 rfl) ?_
        refine lv_aload_n hx hb dX12_checkOf_43 rfl (lv_at hl 0 rfl) ?_
        refine R_get (v := .int (hI σ1 40 2)) hx hb ht ui_X12 hown hK hB (by decide) (cell_8 rfl) rfl 2 (by decide) (ht _ tw918) (fun _ h9 => h9) rfl dX12_checkOf_44 ?_
        replace h := ck_eq h; obtain ⟨q_6, h⟩ := h
        refine lv_irem hx hb dX12_checkOf_47 q_6 ?_
        obtain ⟨rfl, rfl⟩ := Prod.mk.inj (Option.some.inj h)
        exact W.iret hx hb hr (R_end hB) hB.2.2.2.2 dX12_checkOf_48
      · replace h := itn h c_5
        refine lv_iload hx hb dX12_checkOf_18 (lv_at hl 2 rfl) ?_
        refine lv_aload_n hx hb dX12_checkOf_20 rfl (lv_at hl 0 rfl) ?_
        refine R_get (v := .ref (gL g 67)) hx hb ht ui_X12 hown hK hB (by decide) (cell_8 rfl) rfl 27 (by decide) (ht _ tw943) (fun _ h9 => h9) rfl dX12_checkOf_21 ?_
        refine lv_iload hx hb dX12_checkOf_24 (lv_at hl 3 rfl) ?_
        replace h := ck_eq h; obtain ⟨q_7, h⟩ := h
        refine R_iald hx hb hK hB rfl (inb_eq q_7) dX12_checkOf_26 ?_
        refine lv_iload hx hb dX12_checkOf_27 (lv_at hl 3 rfl) ?_
        refine lv_iconst (v := 1) hx hb dX12_checkOf_29 (by decide) ?_
        refine lv_iadd hx hb dX12_checkOf_30 ?_
        refine lv_imul hx hb dX12_checkOf_31 ?_
        refine lv_iadd hx hb dX12_checkOf_32 ?_
        refine lv_istore (lv' := [(4, .int (x4 + ((hI σ1 67 x5.toNatClampNeg) * (x5 + (1 : Int32))))), (0, .ref (gL g 40)), (3, .int x3), (5, .int x5)]) hx hb dX12_checkOf_33 hl (by decide) rfl (fun ls hl => ?_)
        refine lv_iinc (v := x5 + 1) (lv' := [(5, .int (x5 + 1)), (4, .int (x4 + ((hI σ1 67 x5.toNatClampNeg) * (x5 + (1 : Int32))))), (0, .ref (gL g 40)), (3, .int x3)]) hx hb dX12_checkOf_35 hl (k := 3) rfl rfl (by decide) rfl (fun ls hl => ?_)
        refine lv_goto (tgt := 12) hx hb dX12_checkOf_38 (by decide) ?_
        obtain rfl := Option.some.inj h
        exact ih1 (x4 + ((hI σ1 67 x5.toNatClampNeg) * (x5 + (1 : Int32)))) (x5 + 1) σ1 H locs ls hx1 hB (lv_sub hl [2, 3, 1, 0] rfl)
  suffices hmain : ∀ (H : Heap) (locs : List Loc) (ls : Array Slot), tB g P σ A s.heap H locs → lv_has ls 6 [(0, .ref (gL g 40)), (1, .long a1)] → WQ p l e { frames := 1, cells := 0, slots := 0, locals := 25 } s m args below meth c g P A (some (.int r)) τ H locs (F0 m 0 ls []) from hmain _ _ ls0 hB0 hl0
  intro H locs ls hB hl
  unfold f_X12_checkOf at h
  refine lv_aload_n hx hb dX12_checkOf_0 rfl (lv_at hl 0 rfl) ?_
  refine lv_lload_n hx hb dX12_checkOf_1 rfl (lv_at hl 1 rfl) ?_
  replace h := b2_eq h; obtain ⟨r_2, s_3, hc_4, h⟩ := h
  refine R_call (rest := []) [.int r_2] (R_runV (n := 1) (As := [.long a1]) ⟨hx, hb, hml, hown, ht⟩ (fun _ h9 => h9) hK hZ hA hB (c_X12_figures l g P σ a1 H.size hc_4) (R_recv hK hB (by decide) (cell_8 rfl) rfl) tw1087 tw1084 tw1086 pw31 tw5 ⟨by decide, by decide, by decide⟩ rfl rfl ⟨Nat.le_of_ble_eq_true rfl, Nat.le_of_ble_eq_true rfl⟩ rfl hl.1 rfl (Nat.le_of_ble_eq_true rfl) dX12_checkOf_2 ⟨Nat.zero_le _, Nat.zero_le _⟩) hB hA rfl (fun H locs hB => ?_)
  refine lv_istore_n (lv' := [(3, .int r_2), (0, .ref (gL g 40)), (1, .long a1)]) hx hb dX12_checkOf_5 rfl hl (by decide) rfl (fun ls hl => ?_)
  refine lv_iconst (v := 0) hx hb dX12_checkOf_6 (by decide) ?_
  refine lv_istore (lv' := [(4, .int (0 : Int32)), (3, .int r_2), (0, .ref (gL g 40)), (1, .long a1)]) hx hb dX12_checkOf_7 hl (by decide) rfl (fun ls hl => ?_)
  refine lv_iconst (v := 0) hx hb dX12_checkOf_9 (by decide) ?_
  refine lv_istore (lv' := [(5, .int (0 : Int32)), (4, .int (0 : Int32)), (3, .int r_2), (0, .ref (gL g 40)), (1, .long a1)]) hx hb dX12_checkOf_10 hl (by decide) rfl (fun ls hl => ?_)
  exact hL_12 r_2 fuel (0 : Int32) (0 : Int32) s_3 H locs ls h hB (lv_sub hl [3, 2, 1, 0] rfl)
def f_X12_turned (a1 : Int64) (σ : Hp) : Option (Int64 × Hp) := b2 (f_X12_isNumber a1 σ) (fun r_1 s_2 => if r_1 = 0 then b2 (f_X12_no (-6 : Int32) s_2) (fun r_5 s_6 => some (r_5.toInt64, s_6)) else b2 (f_X12_turnedOf a1 s_2) (fun r_8 s_9 => some (r_8, s_9)))
set_option maxHeartbeats 4000000 in
set_option maxRecDepth 100000 in
theorem c_X12_turned (l : Launch) (g : tG) (P : Nat → Nat) (σ : Hp) (a1 : Int64) (sz : Nat) {r : Int64} {τ : Hp} (h : f_X12_turned a1 σ = some (r, τ)) : Met l yX12_turned (Cond.code yX12_turned cX12_turned 3 (some .long) :: tblG) ({ frames := 1, cells := 0, slots := 0, locals := 26 }) (va_Pc [.ref (gL g 40), .long a1] (tPre g P σ sz)) (tQ (some (.long r)) (tPost g P τ (va_A (wC g P σ) sz)) (va_A (wC g P σ) sz)) 0 0 (va_A (wC g P σ) sz) := by
  refine T_start (B := fun A => tPost g P τ A) (by decide) (Nat.le_of_ble_eq_true rfl) ?_
  intro p e s m args below meth c ls0 A hx hb hml hr hown hlocks ht hnm hK hZ hA hB0 hl0
  suffices hmain : ∀ (H : Heap) (locs : List Loc) (ls : Array Slot), tB g P σ A s.heap H locs → lv_has ls 3 [(0, .ref (gL g 40)), (1, .long a1)] → WQ p l e { frames := 1, cells := 0, slots := 0, locals := 26 } s m args below meth c g P A (some (.long r)) τ H locs (F0 m 0 ls []) from hmain _ _ ls0 hB0 hl0
  intro H locs ls hB hl
  unfold f_X12_turned at h
  refine lv_aload_n hx hb dX12_turned_0 rfl (lv_at hl 0 rfl) ?_
  refine lv_lload_n hx hb dX12_turned_1 rfl (lv_at hl 1 rfl) ?_
  replace h := b2_eq h; obtain ⟨r_1, s_2, hc_3, h⟩ := h
  refine R_call (rest := []) [.int r_1] (R_runV (n := 1) (As := [.long a1]) ⟨hx, hb, hml, hown, ht⟩ (fun _ h9 => h9) hK hZ hA hB (c_X12_isNumber l g P σ a1 H.size hc_3) (R_recv hK hB (by decide) (cell_8 rfl) rfl) tw1177 tw1174 tw1176 pw45 tw5 ⟨by decide, by decide, by decide⟩ rfl rfl ⟨Nat.le_of_ble_eq_true rfl, Nat.le_of_ble_eq_true rfl⟩ rfl hl.1 rfl (Nat.le_of_ble_eq_true rfl) dX12_turned_2 ⟨Nat.zero_le _, Nat.zero_le _⟩) hB hA rfl (fun H locs hB => ?_)
  refine lv_if_eq (tgt := 16) hx hb dX12_turned_5 (by decide) (fun c_4 => ?_) (fun c_4 => ?_)
  · replace h := itp h c_4
    refine lv_aload_n hx hb dX12_turned_16 rfl (lv_at hl 0 rfl) ?_
    refine lv_bipush (v := -6) hx hb dX12_turned_17 (by decide) ?_
    replace h := b2_eq h; obtain ⟨r_5, s_6, hc_7, h⟩ := h
    refine R_call (rest := []) [.int r_5] (R_runV (n := 1) (As := [.int (-6 : Int32)]) ⟨hx, hb, hml, hown, ht⟩ (fun _ h9 => h9) hK hZ hA hB (c_X12_no l g P s_2 (-6 : Int32) H.size hc_7) (R_recv hK hB (by decide) (cell_8 rfl) rfl) tw1042 tw1039 tw1041 pw26 tw5 ⟨by decide, by decide, by decide⟩ rfl rfl ⟨Nat.le_of_ble_eq_true rfl, Nat.le_of_ble_eq_true rfl⟩ rfl hl.1 rfl (Nat.le_of_ble_eq_true rfl) dX12_turned_19 ⟨Nat.zero_le _, Nat.zero_le _⟩) hB hA rfl (fun H locs hB => ?_)
    refine lv_i2l (v := r_5.toInt64) hx hb dX12_turned_22 rfl ?_
    obtain ⟨rfl, rfl⟩ := Prod.mk.inj (Option.some.inj h)
    exact W.lret hx hb hr (R_end hB) hB.2.2.2.2 dX12_turned_23
  · replace h := itn h c_4
    refine lv_aload_n hx hb dX12_turned_8 rfl (lv_at hl 0 rfl) ?_
    refine lv_lload_n hx hb dX12_turned_9 rfl (lv_at hl 1 rfl) ?_
    replace h := b2_eq h; obtain ⟨r_8, s_9, hc_10, h⟩ := h
    refine R_call (rest := []) [.long r_8] (R_runV (n := 1) (As := [.long a1]) ⟨hx, hb, hml, hown, ht⟩ (fun _ h9 => h9) hK hZ hA hB (c_X12_turnedOf l g P s_2 a1 H.size hc_10) (R_recv hK hB (by decide) (cell_8 rfl) rfl) tw1079 tw1076 tw1078 pw29 tw5 ⟨by decide, by decide, by decide⟩ rfl rfl ⟨Nat.le_of_ble_eq_true rfl, Nat.le_of_ble_eq_true rfl⟩ rfl hl.1 rfl (Nat.le_of_ble_eq_true rfl) dX12_turned_10 ⟨Nat.zero_le _, Nat.zero_le _⟩) hB hA rfl (fun H locs hB => ?_)
    refine lv_goto (tgt := 23) hx hb dX12_turned_13 (by decide) ?_
    obtain ⟨rfl, rfl⟩ := Prod.mk.inj (Option.some.inj h)
    exact W.lret hx hb hr (R_end hB) hB.2.2.2.2 dX12_turned_23
def f_X12_numberOf_b9 (σ1 : Hp) : Option (Int32 × Hp) := b2 (f_X12_no (-5 : Int32) σ1) (fun r_2 s_3 => some (r_2, s_3))
def f_X12_numberOf_t44 (x1 : Int64) (x3 : Int32) (x4 : Int32) (x5 : Int32) (x6 : Int32) (σ1 : Hp) : Option ((Int32 × Int32 × Hp) ⊕ (Int32 × Hp)) := if x4 ≤ x6 then ex (if x3 = 0 then some (x4, σ1) else (if x3 = 1 then some (x5, σ1) else (if x3 = 2 then b2 (f_X12_isAlike x1 σ1) (fun r_17 s_18 => if r_17 = 0 then some ((0 : Int32), s_18) else some ((1 : Int32), s_18)) else (b2 (f_X12_checkOf x1 σ1) (fun r_21 s_22 => some (r_21, s_22)))))) else ck (inb x6 64 = true) (some (.inl ((x5 + (hI σ1 67 x6.toNatClampNeg)), (x6 + 1), σ1)))
def f_X12_numberOf_s44 (x1 : Int64) (x3 : Int32) (x4 : Int32) (v : (Int32 × Int32 × Hp)) : Option ((Int32 × Int32 × Hp) ⊕ (Int32 × Hp)) := f_X12_numberOf_t44 x1 x3 x4 v.1 v.2.1 v.2.2
def f_X12_numberOf (a1 : Int64) (a3 : Int32) (σ : Hp) : Option (Int32 × Hp) := if a3 < 0 then f_X12_numberOf_b9 σ else if a3 ≤ (3 : Int32) then b2 (f_X12_isNumber a1 σ) (fun r_6 s_7 => if r_6 = 0 then b2 (f_X12_no (-6 : Int32) s_7) (fun r_25 s_26 => some (r_25, s_26)) else b2 (f_X12_figures a1 s_7) (fun r_10 s_11 => iter (f_X12_numberOf_s44 a1 a3 r_10) fuel ((0 : Int32), (0 : Int32), s_11))) else f_X12_numberOf_b9 σ
set_option maxHeartbeats 4000000 in
set_option maxRecDepth 100000 in
theorem c_X12_numberOf (l : Launch) (g : tG) (P : Nat → Nat) (σ : Hp) (a1 : Int64) (a3 : Int32) (sz : Nat) {r : Int32} {τ : Hp} (h : f_X12_numberOf a1 a3 σ = some (r, τ)) : Met l yX12_numberOf (Cond.code yX12_numberOf cX12_numberOf 7 (some .int) :: tblG) ({ frames := 2, cells := 0, slots := 0, locals := 50 }) (va_Pc [.ref (gL g 40), .long a1, .int a3] (tPre g P σ sz)) (tQ (some (.int r)) (tPost g P τ (va_A (wC g P σ) sz)) (va_A (wC g P σ) sz)) 0 0 (va_A (wC g P σ) sz) := by
  refine T_start (B := fun A => tPost g P τ A) (by decide) (Nat.le_of_ble_eq_true rfl) ?_
  intro p e s m args below meth c ls0 A hx hb hml hr hown hlocks ht hnm hK hZ hA hB0 hl0
  have hb_9 : ∀ (σ1 : Hp) (H : Heap) (locs : List Loc) (ls : Array Slot), f_X12_numberOf_b9 σ1 = some (r, τ) → tB g P σ1 A s.heap H locs → lv_has ls 7 [(0, .ref (gL g 40))] → WQ p l e { frames := 2, cells := 0, slots := 0, locals := 50 } s m args below meth c g P A (some (.int r)) τ H locs (F0 m 9 ls []) := by
    intro σ1 H locs ls h hB hl
    unfold f_X12_numberOf_b9 at h
    refine lv_aload_n hx hb dX12_numberOf_9 rfl (lv_at hl 0 rfl) ?_
    refine lv_bipush (v := -5) hx hb dX12_numberOf_10 (by decide) ?_
    replace h := b2_eq h; obtain ⟨r_2, s_3, hc_4, h⟩ := h
    refine R_call (rest := []) [.int r_2] (R_runV (n := 1) (As := [.int (-5 : Int32)]) ⟨hx, hb, hml, hown, ht⟩ (fun _ h9 => h9) hK hZ hA hB (c_X12_no l g P σ1 (-5 : Int32) H.size hc_4) (R_recv hK hB (by decide) (cell_8 rfl) rfl) tw1042 tw1039 tw1041 pw26 tw5 ⟨by decide, by decide, by decide⟩ rfl rfl ⟨Nat.le_of_ble_eq_true rfl, Nat.le_of_ble_eq_true rfl⟩ rfl hl.1 rfl (Nat.le_of_ble_eq_true rfl) dX12_numberOf_12 ⟨Nat.zero_le _, Nat.zero_le _⟩) hB hA rfl (fun H locs hB => ?_)
    obtain ⟨rfl, rfl⟩ := Prod.mk.inj (Option.some.inj h)
    exact W.iret hx hb hr (R_end hB) hB.2.2.2.2 dX12_numberOf_15
  have hL_44 : ∀ (x1 : Int64) (x3 : Int32) (x4 : Int32) (n : Nat) (x5 : Int32) (x6 : Int32) (σ1 : Hp) (H : Heap) (locs : List Loc) (ls : Array Slot), iter (f_X12_numberOf_s44 x1 x3 x4) n (x5, x6, σ1) = some (r, τ) → tB g P σ1 A s.heap H locs → lv_has ls 7 [(0, .ref (gL g 40)), (1, .long x1), (3, .int x3), (4, .int x4), (5, .int x5), (6, .int x6)] → WQ p l e { frames := 2, cells := 0, slots := 0, locals := 50 } s m args below meth c g P A (some (.int r)) τ H locs (F0 m 44 ls []) := by
    intro x1 x3 x4 n
    induction n with
    | zero =>
      intro x5 x6 σ1 H locs ls h hB hl
      exact (iter_0 h).elim
    | succ n ih1 =>
      intro x5 x6 σ1 H locs ls h hB hl
      replace h := iter_eq h; obtain ⟨z1, hh1, hx1⟩ := h
      have h : f_X12_numberOf_t44 x1 x3 x4 x5 x6 σ1 = some z1 := hh1
      clear hh1
      unfold f_X12_numberOf_t44 at h
      refine lv_iload hx hb dX12_numberOf_44 (lv_at hl 5 rfl) ?_
      refine lv_iload hx hb dX12_numberOf_46 (lv_at hl 3 rfl) ?_
      refine lv_icmp_ge (tgt := 69) hx hb dX12_numberOf_48 (by decide) (fun c_13 => ?_) (fun c_13 => ?_)
      · replace h := itp h c_13
        replace h := ex_eq h; obtain ⟨b1, h, hz1⟩ := h
        subst hz1
        have hz1 := (itk_inr hx1).symm
        subst hz1
        refine lv_iload_n hx hb dX12_numberOf_69 rfl (lv_at hl 2 rfl) ?_
        by_cases c_14 : x3 = 0
        · replace h := itp h c_14
          refine lv_tableIn (tgt := 96) hx hb dX12_numberOf_70 (by rw [c_14]; decide) (by rw [c_14]; decide) (by rw [c_14]; rfl) (by decide) ?_
          refine lv_iload hx hb dX12_numberOf_96 (lv_at hl 3 rfl) ?_
          obtain ⟨rfl, rfl⟩ := Prod.mk.inj (Option.some.inj h)
          exact W.iret hx hb hr (R_end hB) hB.2.2.2.2 dX12_numberOf_98
        · replace h := itn h c_14
          by_cases c_15 : x3 = 1
          · replace h := itp h c_15
            refine lv_tableIn (tgt := 99) hx hb dX12_numberOf_70 (by rw [c_15]; decide) (by rw [c_15]; decide) (by rw [c_15]; rfl) (by decide) ?_
            refine lv_iload hx hb dX12_numberOf_99 (lv_at hl 4 rfl) ?_
            obtain ⟨rfl, rfl⟩ := Prod.mk.inj (Option.some.inj h)
            exact W.iret hx hb hr (R_end hB) hB.2.2.2.2 dX12_numberOf_101
          · replace h := itn h c_15
            by_cases c_16 : x3 = 2
            · replace h := itp h c_16
              refine lv_tableIn (tgt := 102) hx hb dX12_numberOf_70 (by rw [c_16]; decide) (by rw [c_16]; decide) (by rw [c_16]; rfl) (by decide) ?_
              refine lv_aload_n hx hb dX12_numberOf_102 rfl (lv_at hl 0 rfl) ?_
              refine lv_lload_n hx hb dX12_numberOf_103 rfl (lv_at hl 1 rfl) ?_
              replace h := b2_eq h; obtain ⟨r_17, s_18, hc_19, h⟩ := h
              refine R_call (rest := []) [.int r_17] (R_runV (n := 1) (As := [.long x1]) ⟨hx, hb, hml, hown, ht⟩ (fun _ h9 => h9) hK hZ hA hB (c_X12_isAlike l g P σ1 x1 H.size hc_19) (R_recv hK hB (by decide) (cell_8 rfl) rfl) tw1185 tw1182 tw1184 pw46 tw5 ⟨by decide, by decide, by decide⟩ rfl rfl ⟨Nat.le_of_ble_eq_true rfl, Nat.le_of_ble_eq_true rfl⟩ rfl hl.1 rfl (Nat.le_of_ble_eq_true rfl) dX12_numberOf_104 ⟨Nat.zero_le _, Nat.zero_le _⟩) hB hA rfl (fun H locs hB => ?_)
              refine lv_if_eq (tgt := 114) hx hb dX12_numberOf_107 (by decide) (fun c_20 => ?_) (fun c_20 => ?_)
              · replace h := itp h c_20
                refine lv_iconst (v := 0) hx hb dX12_numberOf_114 (by decide) ?_
                obtain ⟨rfl, rfl⟩ := Prod.mk.inj (Option.some.inj h)
                exact W.iret hx hb hr (R_end hB) hB.2.2.2.2 dX12_numberOf_115
              · replace h := itn h c_20
                refine lv_iconst (v := 1) hx hb dX12_numberOf_110 (by decide) ?_
                refine lv_goto (tgt := 115) hx hb dX12_numberOf_111 (by decide) ?_
                obtain ⟨rfl, rfl⟩ := Prod.mk.inj (Option.some.inj h)
                exact W.iret hx hb hr (R_end hB) hB.2.2.2.2 dX12_numberOf_115
            · replace h := itn h c_16
              refine lv_tableOut (tgt := 116) hx hb dX12_numberOf_70 (sw_out (lo := 0) (hi := 2) (by decide) (by decide) (fun k h1 h2 => by rcases (show k = 0 ∨ k = 1 ∨ k = 2 by omega) with rfl | rfl | rfl <;> assumption)) (by decide) ?_
              refine lv_aload_n hx hb dX12_numberOf_116 rfl (lv_at hl 0 rfl) ?_
              refine lv_lload_n hx hb dX12_numberOf_117 rfl (lv_at hl 1 rfl) ?_
              replace h := b2_eq h; obtain ⟨r_21, s_22, hc_23, h⟩ := h
              refine R_call (rest := []) [.int r_21] (R_runV (n := 1) (As := [.long x1]) ⟨hx, hb, hml, hown, ht⟩ (fun _ h9 => h9) hK hZ hA hB (c_X12_checkOf l g P σ1 x1 H.size hc_23) (R_recv hK hB (by decide) (cell_8 rfl) rfl) tw1189 tw1186 tw1188 pw47 tw5 ⟨by decide, by decide, by decide⟩ rfl rfl ⟨Nat.le_of_ble_eq_true rfl, Nat.le_of_ble_eq_true rfl⟩ rfl hl.1 rfl (Nat.le_of_ble_eq_true rfl) dX12_numberOf_118 ⟨Nat.zero_le _, Nat.zero_le _⟩) hB hA rfl (fun H locs hB => ?_)
              obtain ⟨rfl, rfl⟩ := Prod.mk.inj (Option.some.inj h)
              exact W.iret hx hb hr (R_end hB) hB.2.2.2.2 dX12_numberOf_121
      · replace h := itn h c_13
        refine lv_iload hx hb dX12_numberOf_51 (lv_at hl 4 rfl) ?_
        refine lv_aload_n hx hb dX12_numberOf_53 rfl (lv_at hl 0 rfl) ?_
        refine R_get (v := .ref (gL g 67)) hx hb ht ui_X12 hown hK hB (by decide) (cell_8 rfl) rfl 27 (by decide) (ht _ tw943) (fun _ h9 => h9) rfl dX12_numberOf_54 ?_
        refine lv_iload hx hb dX12_numberOf_57 (lv_at hl 5 rfl) ?_
        replace h := ck_eq h; obtain ⟨q_24, h⟩ := h
        refine R_iald hx hb hK hB rfl (inb_eq q_24) dX12_numberOf_59 ?_
        refine lv_iadd hx hb dX12_numberOf_60 ?_
        refine lv_istore (lv' := [(5, .int (x5 + (hI σ1 67 x6.toNatClampNeg))), (0, .ref (gL g 40)), (1, .long x1), (3, .int x3), (4, .int x4), (6, .int x6)]) hx hb dX12_numberOf_61 hl (by decide) rfl (fun ls hl => ?_)
        refine lv_iinc (v := x6 + 1) (lv' := [(6, .int (x6 + 1)), (5, .int (x5 + (hI σ1 67 x6.toNatClampNeg))), (0, .ref (gL g 40)), (1, .long x1), (3, .int x3), (4, .int x4)]) hx hb dX12_numberOf_63 hl (k := 5) rfl rfl (by decide) rfl (fun ls hl => ?_)
        refine lv_goto (tgt := 44) hx hb dX12_numberOf_66 (by decide) ?_
        obtain rfl := Option.some.inj h
        exact ih1 (x5 + (hI σ1 67 x6.toNatClampNeg)) (x6 + 1) σ1 H locs ls hx1 hB (lv_sub hl [2, 3, 4, 5, 1, 0] rfl)
  suffices hmain : ∀ (H : Heap) (locs : List Loc) (ls : Array Slot), tB g P σ A s.heap H locs → lv_has ls 7 [(0, .ref (gL g 40)), (1, .long a1), (3, .int a3)] → WQ p l e { frames := 2, cells := 0, slots := 0, locals := 50 } s m args below meth c g P A (some (.int r)) τ H locs (F0 m 0 ls []) from hmain _ _ ls0 hB0 hl0
  intro H locs ls hB hl
  unfold f_X12_numberOf at h
  refine lv_iload_n hx hb dX12_numberOf_0 rfl (lv_at hl 2 rfl) ?_
  refine lv_if_lt (tgt := 9) hx hb dX12_numberOf_1 (by decide) (fun c_1 => ?_) (fun c_1 => ?_)
  · replace h := itp h c_1
    exact hb_9 σ H locs ls h hB (lv_sub hl [0] rfl)
  · replace h := itn h c_1
    refine lv_iload_n hx hb dX12_numberOf_4 rfl (lv_at hl 2 rfl) ?_
    refine lv_iconst (v := 3) hx hb dX12_numberOf_5 (by decide) ?_
    refine lv_icmp_le (tgt := 16) hx hb dX12_numberOf_6 (by decide) (fun c_5 => ?_) (fun c_5 => ?_)
    · replace h := itp h c_5
      refine lv_aload_n hx hb dX12_numberOf_16 rfl (lv_at hl 0 rfl) ?_
      refine lv_lload_n hx hb dX12_numberOf_17 rfl (lv_at hl 1 rfl) ?_
      replace h := b2_eq h; obtain ⟨r_6, s_7, hc_8, h⟩ := h
      refine R_call (rest := []) [.int r_6] (R_runV (n := 1) (As := [.long a1]) ⟨hx, hb, hml, hown, ht⟩ (fun _ h9 => h9) hK hZ hA hB (c_X12_isNumber l g P σ a1 H.size hc_8) (R_recv hK hB (by decide) (cell_8 rfl) rfl) tw1177 tw1174 tw1176 pw45 tw5 ⟨by decide, by decide, by decide⟩ rfl rfl ⟨Nat.le_of_ble_eq_true rfl, Nat.le_of_ble_eq_true rfl⟩ rfl hl.1 rfl (Nat.le_of_ble_eq_true rfl) dX12_numberOf_18 ⟨Nat.zero_le _, Nat.zero_le _⟩) hB hA rfl (fun H locs hB => ?_)
      refine lv_if_ne (tgt := 31) hx hb dX12_numberOf_21 (by decide) (fun c_9 => ?_) (fun c_9 => ?_)
      · replace h := itn h c_9
        refine lv_aload_n hx hb dX12_numberOf_31 rfl (lv_at hl 0 rfl) ?_
        refine lv_lload_n hx hb dX12_numberOf_32 rfl (lv_at hl 1 rfl) ?_
        replace h := b2_eq h; obtain ⟨r_10, s_11, hc_12, h⟩ := h
        refine R_call (rest := []) [.int r_10] (R_runV (n := 1) (As := [.long a1]) ⟨hx, hb, hml, hown, ht⟩ (fun _ h9 => h9) hK hZ hA hB (c_X12_figures l g P s_7 a1 H.size hc_12) (R_recv hK hB (by decide) (cell_8 rfl) rfl) tw1087 tw1084 tw1086 pw31 tw5 ⟨by decide, by decide, by decide⟩ rfl rfl ⟨Nat.le_of_ble_eq_true rfl, Nat.le_of_ble_eq_true rfl⟩ rfl hl.1 rfl (Nat.le_of_ble_eq_true rfl) dX12_numberOf_33 ⟨Nat.zero_le _, Nat.zero_le _⟩) hB hA rfl (fun H locs hB => ?_)
        refine lv_istore (lv' := [(4, .int r_10), (0, .ref (gL g 40)), (1, .long a1), (3, .int a3)]) hx hb dX12_numberOf_36 hl (by decide) rfl (fun ls hl => ?_)
        refine lv_iconst (v := 0) hx hb dX12_numberOf_38 (by decide) ?_
        refine lv_istore (lv' := [(5, .int (0 : Int32)), (4, .int r_10), (0, .ref (gL g 40)), (1, .long a1), (3, .int a3)]) hx hb dX12_numberOf_39 hl (by decide) rfl (fun ls hl => ?_)
        refine lv_iconst (v := 0) hx hb dX12_numberOf_41 (by decide) ?_
        refine lv_istore (lv' := [(6, .int (0 : Int32)), (5, .int (0 : Int32)), (4, .int r_10), (0, .ref (gL g 40)), (1, .long a1), (3, .int a3)]) hx hb dX12_numberOf_42 hl (by decide) rfl (fun ls hl => ?_)
        exact hL_44 a1 a3 r_10 fuel (0 : Int32) (0 : Int32) s_11 H locs ls h hB (lv_sub hl [3, 4, 5, 2, 1, 0] rfl)
      · replace h := itp h c_9
        refine lv_aload_n hx hb dX12_numberOf_24 rfl (lv_at hl 0 rfl) ?_
        refine lv_bipush (v := -6) hx hb dX12_numberOf_25 (by decide) ?_
        replace h := b2_eq h; obtain ⟨r_25, s_26, hc_27, h⟩ := h
        refine R_call (rest := []) [.int r_25] (R_runV (n := 1) (As := [.int (-6 : Int32)]) ⟨hx, hb, hml, hown, ht⟩ (fun _ h9 => h9) hK hZ hA hB (c_X12_no l g P s_7 (-6 : Int32) H.size hc_27) (R_recv hK hB (by decide) (cell_8 rfl) rfl) tw1042 tw1039 tw1041 pw26 tw5 ⟨by decide, by decide, by decide⟩ rfl rfl ⟨Nat.le_of_ble_eq_true rfl, Nat.le_of_ble_eq_true rfl⟩ rfl hl.1 rfl (Nat.le_of_ble_eq_true rfl) dX12_numberOf_27 ⟨Nat.zero_le _, Nat.zero_le _⟩) hB hA rfl (fun H locs hB => ?_)
        obtain ⟨rfl, rfl⟩ := Prod.mk.inj (Option.some.inj h)
        exact W.iret hx hb hr (R_end hB) hB.2.2.2.2 dX12_numberOf_30
    · replace h := itn h c_5
      exact hb_9 σ H locs ls h hB (lv_sub hl [0] rfl)
def f_X12_next (a1 : Int32) (a2 : Int64) (σ : Hp) : Option (Int64 × Hp) := b2 (f_X12_isLaw a1 σ) (fun r_1 s_2 => if r_1 = 0 then b2 (f_X12_no (-1 : Int32) s_2) (fun r_19 s_20 => some (r_19.toInt64, s_20)) else b2 (f_X12_isNumber a2 s_2) (fun r_5 s_6 => if r_5 = 0 then b2 (f_X12_no (-6 : Int32) s_6) (fun r_16 s_17 => some (r_16.toInt64, s_17)) else b2 (f_X12_nextOf a1 a2 s_6) (fun r_9 s_10 => if (lg_cmp r_9 (-1 : Int64)) = 0 then b2 (f_X12_no (-7 : Int32) s_10) (fun r_13 s_14 => some (r_13.toInt64, s_14)) else some (r_9, s_10))))
set_option maxHeartbeats 4000000 in
set_option maxRecDepth 100000 in
theorem c_X12_next (l : Launch) (g : tG) (P : Nat → Nat) (σ : Hp) (a1 : Int32) (a2 : Int64) (sz : Nat) {r : Int64} {τ : Hp} (h : f_X12_next a1 a2 σ = some (r, τ)) : Met l yX12_next (Cond.code yX12_next cX12_next 6 (some .long) :: tblG) ({ frames := 3, cells := 0, slots := 0, locals := 82 }) (va_Pc [.ref (gL g 40), .int a1, .long a2] (tPre g P σ sz)) (tQ (some (.long r)) (tPost g P τ (va_A (wC g P σ) sz)) (va_A (wC g P σ) sz)) 0 0 (va_A (wC g P σ) sz) := by
  refine T_start (B := fun A => tPost g P τ A) (by decide) (Nat.le_of_ble_eq_true rfl) ?_
  intro p e s m args below meth c ls0 A hx hb hml hr hown hlocks ht hnm hK hZ hA hB0 hl0
  suffices hmain : ∀ (H : Heap) (locs : List Loc) (ls : Array Slot), tB g P σ A s.heap H locs → lv_has ls 6 [(0, .ref (gL g 40)), (1, .int a1), (2, .long a2)] → WQ p l e { frames := 3, cells := 0, slots := 0, locals := 82 } s m args below meth c g P A (some (.long r)) τ H locs (F0 m 0 ls []) from hmain _ _ ls0 hB0 hl0
  intro H locs ls hB hl
  unfold f_X12_next at h
  refine lv_aload_n hx hb dX12_next_0 rfl (lv_at hl 0 rfl) ?_
  refine lv_iload_n hx hb dX12_next_1 rfl (lv_at hl 1 rfl) ?_
  replace h := b2_eq h; obtain ⟨r_1, s_2, hc_3, h⟩ := h
  refine R_call (rest := []) [.int r_1] (R_runV (n := 1) (As := [.int a1]) ⟨hx, hb, hml, hown, ht⟩ (fun _ h9 => h9) hK hZ hA hB (c_X12_isLaw l g P σ a1 H.size hc_3) (R_recv hK hB (by decide) (cell_8 rfl) rfl) tw1062 tw1059 tw1061 pw27 tw5 ⟨by decide, by decide, by decide⟩ rfl rfl ⟨Nat.le_of_ble_eq_true rfl, Nat.le_of_ble_eq_true rfl⟩ rfl hl.1 rfl (Nat.le_of_ble_eq_true rfl) dX12_next_2 ⟨Nat.zero_le _, Nat.zero_le _⟩) hB hA rfl (fun H locs hB => ?_)
  refine lv_if_ne (tgt := 15) hx hb dX12_next_5 (by decide) (fun c_4 => ?_) (fun c_4 => ?_)
  · replace h := itn h c_4
    refine lv_aload_n hx hb dX12_next_15 rfl (lv_at hl 0 rfl) ?_
    refine lv_lload_n hx hb dX12_next_16 rfl (lv_at hl 2 rfl) ?_
    replace h := b2_eq h; obtain ⟨r_5, s_6, hc_7, h⟩ := h
    refine R_call (rest := []) [.int r_5] (R_runV (n := 1) (As := [.long a2]) ⟨hx, hb, hml, hown, ht⟩ (fun _ h9 => h9) hK hZ hA hB (c_X12_isNumber l g P s_2 a2 H.size hc_7) (R_recv hK hB (by decide) (cell_8 rfl) rfl) tw1177 tw1174 tw1176 pw45 tw5 ⟨by decide, by decide, by decide⟩ rfl rfl ⟨Nat.le_of_ble_eq_true rfl, Nat.le_of_ble_eq_true rfl⟩ rfl hl.1 rfl (Nat.le_of_ble_eq_true rfl) dX12_next_17 ⟨Nat.zero_le _, Nat.zero_le _⟩) hB hA rfl (fun H locs hB => ?_)
    refine lv_if_ne (tgt := 31) hx hb dX12_next_20 (by decide) (fun c_8 => ?_) (fun c_8 => ?_)
    · replace h := itn h c_8
      refine lv_aload_n hx hb dX12_next_31 rfl (lv_at hl 0 rfl) ?_
      refine lv_iload_n hx hb dX12_next_32 rfl (lv_at hl 1 rfl) ?_
      refine lv_lload_n hx hb dX12_next_33 rfl (lv_at hl 2 rfl) ?_
      replace h := b2_eq h; obtain ⟨r_9, s_10, hc_11, h⟩ := h
      refine R_call (rest := []) [.long r_9] (R_runV (n := 2) (As := [.int a1, .long a2]) ⟨hx, hb, hml, hown, ht⟩ (fun _ h9 => h9) hK hZ hA hB (c_X12_nextOf l g P s_6 a1 a2 H.size hc_11) (R_recv hK hB (by decide) (cell_8 rfl) rfl) tw1075 tw1072 tw1074 pw28 tw5 ⟨by decide, by decide, by decide⟩ rfl rfl ⟨Nat.le_of_ble_eq_true rfl, Nat.le_of_ble_eq_true rfl⟩ rfl hl.1 rfl (Nat.le_of_ble_eq_true rfl) dX12_next_34 ⟨Nat.zero_le _, Nat.zero_le _⟩) hB hA rfl (fun H locs hB => ?_)
      refine lv_lstore (lv' := [(4, .long r_9), (0, .ref (gL g 40)), (1, .int a1), (2, .long a2)]) hx hb dX12_next_37 hl (by decide) rfl (fun ls hl => ?_)
      refine lv_lload hx hb dX12_next_39 (lv_at hl 0 rfl) ?_
      refine lv_ldc2 (v := -1) hx hb hown (ht _ tw1089) dX12_next_41 ?_
      refine W.lcmp hx hb dX12_next_44 ?_
      refine lv_if_ne (tgt := 58) hx hb dX12_next_45 (by decide) (fun c_12 => ?_) (fun c_12 => ?_)
      · replace h := itn h c_12
        refine lv_lload hx hb dX12_next_58 (lv_at hl 0 rfl) ?_
        obtain ⟨rfl, rfl⟩ := Prod.mk.inj (Option.some.inj h)
        exact W.lret hx hb hr (R_end hB) hB.2.2.2.2 dX12_next_60
      · replace h := itp h c_12
        refine lv_aload_n hx hb dX12_next_48 rfl (lv_at hl 1 rfl) ?_
        refine lv_bipush (v := -7) hx hb dX12_next_49 (by decide) ?_
        replace h := b2_eq h; obtain ⟨r_13, s_14, hc_15, h⟩ := h
        refine R_call (rest := []) [.int r_13] (R_runV (n := 1) (As := [.int (-7 : Int32)]) ⟨hx, hb, hml, hown, ht⟩ (fun _ h9 => h9) hK hZ hA hB (c_X12_no l g P s_10 (-7 : Int32) H.size hc_15) (R_recv hK hB (by decide) (cell_8 rfl) rfl) tw1042 tw1039 tw1041 pw26 tw5 ⟨by decide, by decide, by decide⟩ rfl rfl ⟨Nat.le_of_ble_eq_true rfl, Nat.le_of_ble_eq_true rfl⟩ rfl hl.1 rfl (Nat.le_of_ble_eq_true rfl) dX12_next_51 ⟨Nat.zero_le _, Nat.zero_le _⟩) hB hA rfl (fun H locs hB => ?_)
        refine lv_i2l (v := r_13.toInt64) hx hb dX12_next_54 rfl ?_
        refine lv_goto (tgt := 60) hx hb dX12_next_55 (by decide) ?_
        obtain ⟨rfl, rfl⟩ := Prod.mk.inj (Option.some.inj h)
        exact W.lret hx hb hr (R_end hB) hB.2.2.2.2 dX12_next_60
    · replace h := itp h c_8
      refine lv_aload_n hx hb dX12_next_23 rfl (lv_at hl 0 rfl) ?_
      refine lv_bipush (v := -6) hx hb dX12_next_24 (by decide) ?_
      replace h := b2_eq h; obtain ⟨r_16, s_17, hc_18, h⟩ := h
      refine R_call (rest := []) [.int r_16] (R_runV (n := 1) (As := [.int (-6 : Int32)]) ⟨hx, hb, hml, hown, ht⟩ (fun _ h9 => h9) hK hZ hA hB (c_X12_no l g P s_6 (-6 : Int32) H.size hc_18) (R_recv hK hB (by decide) (cell_8 rfl) rfl) tw1042 tw1039 tw1041 pw26 tw5 ⟨by decide, by decide, by decide⟩ rfl rfl ⟨Nat.le_of_ble_eq_true rfl, Nat.le_of_ble_eq_true rfl⟩ rfl hl.1 rfl (Nat.le_of_ble_eq_true rfl) dX12_next_26 ⟨Nat.zero_le _, Nat.zero_le _⟩) hB hA rfl (fun H locs hB => ?_)
      refine lv_i2l (v := r_16.toInt64) hx hb dX12_next_29 rfl ?_
      obtain ⟨rfl, rfl⟩ := Prod.mk.inj (Option.some.inj h)
      exact W.lret hx hb hr (R_end hB) hB.2.2.2.2 dX12_next_30
  · replace h := itp h c_4
    refine lv_aload_n hx hb dX12_next_8 rfl (lv_at hl 0 rfl) ?_
    refine lv_iconst (v := -1) hx hb dX12_next_9 (by decide) ?_
    replace h := b2_eq h; obtain ⟨r_19, s_20, hc_21, h⟩ := h
    refine R_call (rest := []) [.int r_19] (R_runV (n := 1) (As := [.int (-1 : Int32)]) ⟨hx, hb, hml, hown, ht⟩ (fun _ h9 => h9) hK hZ hA hB (c_X12_no l g P s_2 (-1 : Int32) H.size hc_21) (R_recv hK hB (by decide) (cell_8 rfl) rfl) tw1042 tw1039 tw1041 pw26 tw5 ⟨by decide, by decide, by decide⟩ rfl rfl ⟨Nat.le_of_ble_eq_true rfl, Nat.le_of_ble_eq_true rfl⟩ rfl hl.1 rfl (Nat.le_of_ble_eq_true rfl) dX12_next_10 ⟨Nat.zero_le _, Nat.zero_le _⟩) hB hA rfl (fun H locs hB => ?_)
    refine lv_i2l (v := r_19.toInt64) hx hb dX12_next_13 rfl ?_
    obtain ⟨rfl, rfl⟩ := Prod.mk.inj (Option.some.inj h)
    exact W.lret hx hb hr (R_end hB) hB.2.2.2.2 dX12_next_14
def f_X12_afterOf_t6 (x1 : Int32) (x4 : Int32) (x5 : Int64) (x7 : Int32) (σ1 : Hp) : Option ((Int64 × Int32 × Hp) ⊕ (Int64 × Hp)) := if x4 ≤ x7 then ex (some (x5, σ1)) else if (lg_cmp x5 (-1 : Int64)) = 0 then ex (some (x5, σ1)) else b2 (f_X12_nextOf x1 x5 σ1) (fun r_3 s_4 => some (.inl (r_3, (x7 + 1), s_4)))
def f_X12_afterOf_s6 (x1 : Int32) (x4 : Int32) (v : (Int64 × Int32 × Hp)) : Option ((Int64 × Int32 × Hp) ⊕ (Int64 × Hp)) := f_X12_afterOf_t6 x1 x4 v.1 v.2.1 v.2.2
def f_X12_afterOf (a1 : Int32) (a2 : Int64) (a4 : Int32) (σ : Hp) : Option (Int64 × Hp) := iter (f_X12_afterOf_s6 a1 a4) fuel (a2, (0 : Int32), σ)
set_option maxHeartbeats 4000000 in
set_option maxRecDepth 100000 in
theorem c_X12_afterOf (l : Launch) (g : tG) (P : Nat → Nat) (σ : Hp) (a1 : Int32) (a2 : Int64) (a4 : Int32) (sz : Nat) {r : Int64} {τ : Hp} (h : f_X12_afterOf a1 a2 a4 σ = some (r, τ)) : Met l yX12_afterOf (Cond.code yX12_afterOf cX12_afterOf 8 (some .long) :: tblG) ({ frames := 3, cells := 0, slots := 0, locals := 82 }) (va_Pc [.ref (gL g 40), .int a1, .long a2, .int a4] (tPre g P σ sz)) (tQ (some (.long r)) (tPost g P τ (va_A (wC g P σ) sz)) (va_A (wC g P σ) sz)) 0 0 (va_A (wC g P σ) sz) := by
  refine T_start (B := fun A => tPost g P τ A) (by decide) (Nat.le_of_ble_eq_true rfl) ?_
  intro p e s m args below meth c ls0 A hx hb hml hr hown hlocks ht hnm hK hZ hA hB0 hl0
  have hL_6 : ∀ (x1 : Int32) (x4 : Int32) (n : Nat) (x5 : Int64) (x7 : Int32) (σ1 : Hp) (H : Heap) (locs : List Loc) (ls : Array Slot), iter (f_X12_afterOf_s6 x1 x4) n (x5, x7, σ1) = some (r, τ) → tB g P σ1 A s.heap H locs → lv_has ls 8 [(0, .ref (gL g 40)), (1, .int x1), (4, .int x4), (5, .long x5), (7, .int x7)] → WQ p l e { frames := 3, cells := 0, slots := 0, locals := 82 } s m args below meth c g P A (some (.long r)) τ H locs (F0 m 6 ls []) := by
    intro x1 x4 n
    induction n with
    | zero =>
      intro x5 x7 σ1 H locs ls h hB hl
      exact (iter_0 h).elim
    | succ n ih1 =>
      intro x5 x7 σ1 H locs ls h hB hl
      replace h := iter_eq h; obtain ⟨z1, hh1, hx1⟩ := h
      have h : f_X12_afterOf_t6 x1 x4 x5 x7 σ1 = some z1 := hh1
      clear hh1
      unfold f_X12_afterOf_t6 at h
      refine lv_iload hx hb dX12_afterOf_6 (lv_at hl 4 rfl) ?_
      refine lv_iload hx hb dX12_afterOf_8 (lv_at hl 2 rfl) ?_
      refine lv_icmp_ge (tgt := 37) hx hb dX12_afterOf_10 (by decide) (fun c_1 => ?_) (fun c_1 => ?_)
      · replace h := itp h c_1
        replace h := ex_eq h; obtain ⟨b1, h, hz1⟩ := h
        subst hz1
        have hz1 := (itk_inr hx1).symm
        subst hz1
        refine lv_lload hx hb dX12_afterOf_37 (lv_at hl 3 rfl) ?_
        obtain ⟨rfl, rfl⟩ := Prod.mk.inj (Option.some.inj h)
        exact W.lret hx hb hr (R_end hB) hB.2.2.2.2 dX12_afterOf_39
      · replace h := itn h c_1
        refine lv_lload hx hb dX12_afterOf_13 (lv_at hl 3 rfl) ?_
        refine lv_ldc2 (v := -1) hx hb hown (ht _ tw1089) dX12_afterOf_15 ?_
        refine W.lcmp hx hb dX12_afterOf_18 ?_
        refine lv_if_eq (tgt := 37) hx hb dX12_afterOf_19 (by decide) (fun c_2 => ?_) (fun c_2 => ?_)
        · replace h := itp h c_2
          replace h := ex_eq h; obtain ⟨b1, h, hz1⟩ := h
          subst hz1
          have hz1 := (itk_inr hx1).symm
          subst hz1
          refine lv_lload hx hb dX12_afterOf_37 (lv_at hl 3 rfl) ?_
          obtain ⟨rfl, rfl⟩ := Prod.mk.inj (Option.some.inj h)
          exact W.lret hx hb hr (R_end hB) hB.2.2.2.2 dX12_afterOf_39
        · replace h := itn h c_2
          refine lv_aload_n hx hb dX12_afterOf_22 rfl (lv_at hl 0 rfl) ?_
          refine lv_iload_n hx hb dX12_afterOf_23 rfl (lv_at hl 1 rfl) ?_
          refine lv_lload hx hb dX12_afterOf_24 (lv_at hl 3 rfl) ?_
          replace h := b2_eq h; obtain ⟨r_3, s_4, hc_5, h⟩ := h
          refine R_call (rest := []) [.long r_3] (R_runV (n := 2) (As := [.int x1, .long x5]) ⟨hx, hb, hml, hown, ht⟩ (fun _ h9 => h9) hK hZ hA hB (c_X12_nextOf l g P σ1 x1 x5 H.size hc_5) (R_recv hK hB (by decide) (cell_8 rfl) rfl) tw1075 tw1072 tw1074 pw28 tw5 ⟨by decide, by decide, by decide⟩ rfl rfl ⟨Nat.le_of_ble_eq_true rfl, Nat.le_of_ble_eq_true rfl⟩ rfl hl.1 rfl (Nat.le_of_ble_eq_true rfl) dX12_afterOf_26 ⟨Nat.zero_le _, Nat.zero_le _⟩) hB hA rfl (fun H locs hB => ?_)
          refine lv_lstore (lv' := [(5, .long r_3), (0, .ref (gL g 40)), (1, .int x1), (4, .int x4), (7, .int x7)]) hx hb dX12_afterOf_29 hl (by decide) rfl (fun ls hl => ?_)
          refine lv_iinc (v := x7 + 1) (lv' := [(7, .int (x7 + 1)), (5, .long r_3), (0, .ref (gL g 40)), (1, .int x1), (4, .int x4)]) hx hb dX12_afterOf_31 hl (k := 4) rfl rfl (by decide) rfl (fun ls hl => ?_)
          refine lv_goto (tgt := 6) hx hb dX12_afterOf_34 (by decide) ?_
          obtain rfl := Option.some.inj h
          exact ih1 r_3 (x7 + 1) s_4 H locs ls hx1 hB (lv_sub hl [2, 3, 4, 1, 0] rfl)
  suffices hmain : ∀ (H : Heap) (locs : List Loc) (ls : Array Slot), tB g P σ A s.heap H locs → lv_has ls 8 [(0, .ref (gL g 40)), (1, .int a1), (2, .long a2), (4, .int a4)] → WQ p l e { frames := 3, cells := 0, slots := 0, locals := 82 } s m args below meth c g P A (some (.long r)) τ H locs (F0 m 0 ls []) from hmain _ _ ls0 hB0 hl0
  intro H locs ls hB hl
  unfold f_X12_afterOf at h
  refine lv_lload_n hx hb dX12_afterOf_0 rfl (lv_at hl 2 rfl) ?_
  refine lv_lstore (lv' := [(5, .long a2), (0, .ref (gL g 40)), (1, .int a1), (2, .long a2), (4, .int a4)]) hx hb dX12_afterOf_1 hl (by decide) rfl (fun ls hl => ?_)
  refine lv_iconst (v := 0) hx hb dX12_afterOf_3 (by decide) ?_
  refine lv_istore (lv' := [(7, .int (0 : Int32)), (5, .long a2), (0, .ref (gL g 40)), (1, .int a1), (2, .long a2), (4, .int a4)]) hx hb dX12_afterOf_4 hl (by decide) rfl (fun ls hl => ?_)
  exact hL_6 a1 a4 fuel a2 (0 : Int32) σ H locs ls h hB (lv_sub hl [2, 3, 5, 1, 0] rfl)
def f_X12_after_b36 (σ1 : Hp) : Option (Int64 × Hp) := b2 (f_X12_no (-6 : Int32) σ1) (fun r_9 s_10 => some (r_9.toInt64, s_10))
def f_X12_after (a1 : Int32) (a2 : Int64) (a4 : Int32) (σ : Hp) : Option (Int64 × Hp) := b2 (f_X12_isLaw a1 σ) (fun r_1 s_2 => if r_1 = 0 then b2 (f_X12_no (-1 : Int32) s_2) (fun r_21 s_22 => some (r_21.toInt64, s_22)) else b2 (f_X12_isNumber a2 s_2) (fun r_5 s_6 => if r_5 = 0 then f_X12_after_b36 s_6 else if a4 < 0 then f_X12_after_b36 s_6 else if a4 ≤ (1000 : Int32) then b2 (f_X12_afterOf a1 a2 a4 s_6) (fun r_14 s_15 => if (lg_cmp r_14 (-1 : Int64)) = 0 then b2 (f_X12_no (-7 : Int32) s_15) (fun r_18 s_19 => some (r_18.toInt64, s_19)) else some (r_14, s_15)) else f_X12_after_b36 s_6))
set_option maxHeartbeats 4000000 in
set_option maxRecDepth 100000 in
theorem c_X12_after (l : Launch) (g : tG) (P : Nat → Nat) (σ : Hp) (a1 : Int32) (a2 : Int64) (a4 : Int32) (sz : Nat) {r : Int64} {τ : Hp} (h : f_X12_after a1 a2 a4 σ = some (r, τ)) : Met l yX12_after (Cond.code yX12_after cX12_after 7 (some .long) :: tblG) ({ frames := 4, cells := 0, slots := 0, locals := 109 }) (va_Pc [.ref (gL g 40), .int a1, .long a2, .int a4] (tPre g P σ sz)) (tQ (some (.long r)) (tPost g P τ (va_A (wC g P σ) sz)) (va_A (wC g P σ) sz)) 0 0 (va_A (wC g P σ) sz) := by
  refine T_start (B := fun A => tPost g P τ A) (by decide) (Nat.le_of_ble_eq_true rfl) ?_
  intro p e s m args below meth c ls0 A hx hb hml hr hown hlocks ht hnm hK hZ hA hB0 hl0
  have hb_36 : ∀ (σ1 : Hp) (H : Heap) (locs : List Loc) (ls : Array Slot), f_X12_after_b36 σ1 = some (r, τ) → tB g P σ1 A s.heap H locs → lv_has ls 7 [(0, .ref (gL g 40))] → WQ p l e { frames := 4, cells := 0, slots := 0, locals := 109 } s m args below meth c g P A (some (.long r)) τ H locs (F0 m 36 ls []) := by
    intro σ1 H locs ls h hB hl
    unfold f_X12_after_b36 at h
    refine lv_aload_n hx hb dX12_after_36 rfl (lv_at hl 0 rfl) ?_
    refine lv_bipush (v := -6) hx hb dX12_after_37 (by decide) ?_
    replace h := b2_eq h; obtain ⟨r_9, s_10, hc_11, h⟩ := h
    refine R_call (rest := []) [.int r_9] (R_runV (n := 1) (As := [.int (-6 : Int32)]) ⟨hx, hb, hml, hown, ht⟩ (fun _ h9 => h9) hK hZ hA hB (c_X12_no l g P σ1 (-6 : Int32) H.size hc_11) (R_recv hK hB (by decide) (cell_8 rfl) rfl) tw1042 tw1039 tw1041 pw26 tw5 ⟨by decide, by decide, by decide⟩ rfl rfl ⟨Nat.le_of_ble_eq_true rfl, Nat.le_of_ble_eq_true rfl⟩ rfl hl.1 rfl (Nat.le_of_ble_eq_true rfl) dX12_after_39 ⟨Nat.zero_le _, Nat.zero_le _⟩) hB hA rfl (fun H locs hB => ?_)
    refine lv_i2l (v := r_9.toInt64) hx hb dX12_after_42 rfl ?_
    obtain ⟨rfl, rfl⟩ := Prod.mk.inj (Option.some.inj h)
    exact W.lret hx hb hr (R_end hB) hB.2.2.2.2 dX12_after_43
  suffices hmain : ∀ (H : Heap) (locs : List Loc) (ls : Array Slot), tB g P σ A s.heap H locs → lv_has ls 7 [(0, .ref (gL g 40)), (1, .int a1), (2, .long a2), (4, .int a4)] → WQ p l e { frames := 4, cells := 0, slots := 0, locals := 109 } s m args below meth c g P A (some (.long r)) τ H locs (F0 m 0 ls []) from hmain _ _ ls0 hB0 hl0
  intro H locs ls hB hl
  unfold f_X12_after at h
  refine lv_aload_n hx hb dX12_after_0 rfl (lv_at hl 0 rfl) ?_
  refine lv_iload_n hx hb dX12_after_1 rfl (lv_at hl 1 rfl) ?_
  replace h := b2_eq h; obtain ⟨r_1, s_2, hc_3, h⟩ := h
  refine R_call (rest := []) [.int r_1] (R_runV (n := 1) (As := [.int a1]) ⟨hx, hb, hml, hown, ht⟩ (fun _ h9 => h9) hK hZ hA hB (c_X12_isLaw l g P σ a1 H.size hc_3) (R_recv hK hB (by decide) (cell_8 rfl) rfl) tw1062 tw1059 tw1061 pw27 tw5 ⟨by decide, by decide, by decide⟩ rfl rfl ⟨Nat.le_of_ble_eq_true rfl, Nat.le_of_ble_eq_true rfl⟩ rfl hl.1 rfl (Nat.le_of_ble_eq_true rfl) dX12_after_2 ⟨Nat.zero_le _, Nat.zero_le _⟩) hB hA rfl (fun H locs hB => ?_)
  refine lv_if_ne (tgt := 15) hx hb dX12_after_5 (by decide) (fun c_4 => ?_) (fun c_4 => ?_)
  · replace h := itn h c_4
    refine lv_aload_n hx hb dX12_after_15 rfl (lv_at hl 0 rfl) ?_
    refine lv_lload_n hx hb dX12_after_16 rfl (lv_at hl 2 rfl) ?_
    replace h := b2_eq h; obtain ⟨r_5, s_6, hc_7, h⟩ := h
    refine R_call (rest := []) [.int r_5] (R_runV (n := 1) (As := [.long a2]) ⟨hx, hb, hml, hown, ht⟩ (fun _ h9 => h9) hK hZ hA hB (c_X12_isNumber l g P s_2 a2 H.size hc_7) (R_recv hK hB (by decide) (cell_8 rfl) rfl) tw1177 tw1174 tw1176 pw45 tw5 ⟨by decide, by decide, by decide⟩ rfl rfl ⟨Nat.le_of_ble_eq_true rfl, Nat.le_of_ble_eq_true rfl⟩ rfl hl.1 rfl (Nat.le_of_ble_eq_true rfl) dX12_after_17 ⟨Nat.zero_le _, Nat.zero_le _⟩) hB hA rfl (fun H locs hB => ?_)
    refine lv_if_eq (tgt := 36) hx hb dX12_after_20 (by decide) (fun c_8 => ?_) (fun c_8 => ?_)
    · replace h := itp h c_8
      exact hb_36 s_6 H locs ls h hB (lv_sub hl [0] rfl)
    · replace h := itn h c_8
      refine lv_iload hx hb dX12_after_23 (lv_at hl 3 rfl) ?_
      refine lv_if_lt (tgt := 36) hx hb dX12_after_25 (by decide) (fun c_12 => ?_) (fun c_12 => ?_)
      · replace h := itp h c_12
        exact hb_36 s_6 H locs ls h hB (lv_sub hl [0] rfl)
      · replace h := itn h c_12
        refine lv_iload hx hb dX12_after_28 (lv_at hl 3 rfl) ?_
        refine lv_sipush (v := 1000) hx hb dX12_after_30 (by decide) ?_
        refine lv_icmp_le (tgt := 44) hx hb dX12_after_33 (by decide) (fun c_13 => ?_) (fun c_13 => ?_)
        · replace h := itp h c_13
          refine lv_aload_n hx hb dX12_after_44 rfl (lv_at hl 0 rfl) ?_
          refine lv_iload_n hx hb dX12_after_45 rfl (lv_at hl 1 rfl) ?_
          refine lv_lload_n hx hb dX12_after_46 rfl (lv_at hl 2 rfl) ?_
          refine lv_iload hx hb dX12_after_47 (lv_at hl 3 rfl) ?_
          replace h := b2_eq h; obtain ⟨r_14, s_15, hc_16, h⟩ := h
          refine R_call (rest := []) [.long r_14] (R_runV (n := 3) (As := [.int a1, .long a2, .int a4]) ⟨hx, hb, hml, hown, ht⟩ (fun _ h9 => h9) hK hZ hA hB (c_X12_afterOf l g P s_6 a1 a2 a4 H.size hc_16) (R_recv hK hB (by decide) (cell_8 rfl) rfl) tw1201 tw1198 tw1200 pw48 tw5 ⟨by decide, by decide, by decide⟩ rfl rfl ⟨Nat.le_of_ble_eq_true rfl, Nat.le_of_ble_eq_true rfl⟩ rfl hl.1 rfl (Nat.le_of_ble_eq_true rfl) dX12_after_49 ⟨Nat.zero_le _, Nat.zero_le _⟩) hB hA rfl (fun H locs hB => ?_)
          refine lv_lstore (lv' := [(5, .long r_14), (0, .ref (gL g 40)), (1, .int a1), (2, .long a2), (4, .int a4)]) hx hb dX12_after_52 hl (by decide) rfl (fun ls hl => ?_)
          refine lv_lload hx hb dX12_after_54 (lv_at hl 0 rfl) ?_
          refine lv_ldc2 (v := -1) hx hb hown (ht _ tw1089) dX12_after_56 ?_
          refine W.lcmp hx hb dX12_after_59 ?_
          refine lv_if_ne (tgt := 73) hx hb dX12_after_60 (by decide) (fun c_17 => ?_) (fun c_17 => ?_)
          · replace h := itn h c_17
            refine lv_lload hx hb dX12_after_73 (lv_at hl 0 rfl) ?_
            obtain ⟨rfl, rfl⟩ := Prod.mk.inj (Option.some.inj h)
            exact W.lret hx hb hr (R_end hB) hB.2.2.2.2 dX12_after_75
          · replace h := itp h c_17
            refine lv_aload_n hx hb dX12_after_63 rfl (lv_at hl 1 rfl) ?_
            refine lv_bipush (v := -7) hx hb dX12_after_64 (by decide) ?_
            replace h := b2_eq h; obtain ⟨r_18, s_19, hc_20, h⟩ := h
            refine R_call (rest := []) [.int r_18] (R_runV (n := 1) (As := [.int (-7 : Int32)]) ⟨hx, hb, hml, hown, ht⟩ (fun _ h9 => h9) hK hZ hA hB (c_X12_no l g P s_15 (-7 : Int32) H.size hc_20) (R_recv hK hB (by decide) (cell_8 rfl) rfl) tw1042 tw1039 tw1041 pw26 tw5 ⟨by decide, by decide, by decide⟩ rfl rfl ⟨Nat.le_of_ble_eq_true rfl, Nat.le_of_ble_eq_true rfl⟩ rfl hl.1 rfl (Nat.le_of_ble_eq_true rfl) dX12_after_66 ⟨Nat.zero_le _, Nat.zero_le _⟩) hB hA rfl (fun H locs hB => ?_)
            refine lv_i2l (v := r_18.toInt64) hx hb dX12_after_69 rfl ?_
            refine lv_goto (tgt := 75) hx hb dX12_after_70 (by decide) ?_
            obtain ⟨rfl, rfl⟩ := Prod.mk.inj (Option.some.inj h)
            exact W.lret hx hb hr (R_end hB) hB.2.2.2.2 dX12_after_75
        · replace h := itn h c_13
          exact hb_36 s_6 H locs ls h hB (lv_sub hl [0] rfl)
  · replace h := itp h c_4
    refine lv_aload_n hx hb dX12_after_8 rfl (lv_at hl 0 rfl) ?_
    refine lv_iconst (v := -1) hx hb dX12_after_9 (by decide) ?_
    replace h := b2_eq h; obtain ⟨r_21, s_22, hc_23, h⟩ := h
    refine R_call (rest := []) [.int r_21] (R_runV (n := 1) (As := [.int (-1 : Int32)]) ⟨hx, hb, hml, hown, ht⟩ (fun _ h9 => h9) hK hZ hA hB (c_X12_no l g P s_2 (-1 : Int32) H.size hc_23) (R_recv hK hB (by decide) (cell_8 rfl) rfl) tw1042 tw1039 tw1041 pw26 tw5 ⟨by decide, by decide, by decide⟩ rfl rfl ⟨Nat.le_of_ble_eq_true rfl, Nat.le_of_ble_eq_true rfl⟩ rfl hl.1 rfl (Nat.le_of_ble_eq_true rfl) dX12_after_10 ⟨Nat.zero_le _, Nat.zero_le _⟩) hB hA rfl (fun H locs hB => ?_)
    refine lv_i2l (v := r_21.toInt64) hx hb dX12_after_13 rfl ?_
    obtain ⟨rfl, rfl⟩ := Prod.mk.inj (Option.some.inj h)
    exact W.lret hx hb hr (R_end hB) hB.2.2.2.2 dX12_after_14
def f_X12_goesOf_t8 (x1 : Int32) (x4 : Int32) (σ1 : Hp) : Option ((Int32 × Hp) ⊕ (Int32 × Hp)) := if (200 : Int32) < x4 then ex (some ((-1 : Int32), σ1)) else if (lg_cmp (hJ σ1 40 28) (-1 : Int64)) = 0 then ex (some ((-1 : Int32), σ1)) else b2 (f_X12_isAlike (hJ σ1 40 28) σ1) (fun r_3 s_4 => if r_3 = 0 then b2 (f_X12_nextOf x1 (hJ s_4 40 28) s_4) (fun r_7 s_8 => some (.inl ((x4 + 1), (sJ s_8 40 28 r_7)))) else ex (some (x4, s_4)))
def f_X12_goesOf_s8 (x1 : Int32) (v : (Int32 × Hp)) : Option ((Int32 × Hp) ⊕ (Int32 × Hp)) := f_X12_goesOf_t8 x1 v.1 v.2
def f_X12_goesOf (a1 : Int32) (a2 : Int64) (σ : Hp) : Option (Int32 × Hp) := iter (f_X12_goesOf_s8 a1) fuel ((0 : Int32), (sJ σ 40 28 a2))
set_option maxHeartbeats 4000000 in
set_option maxRecDepth 100000 in
theorem c_X12_goesOf (l : Launch) (g : tG) (P : Nat → Nat) (σ : Hp) (a1 : Int32) (a2 : Int64) (sz : Nat) {r : Int32} {τ : Hp} (h : f_X12_goesOf a1 a2 σ = some (r, τ)) : Met l yX12_goesOf (Cond.code yX12_goesOf cX12_goesOf 5 (some .int) :: tblG) ({ frames := 3, cells := 0, slots := 0, locals := 82 }) (va_Pc [.ref (gL g 40), .int a1, .long a2] (tPre g P σ sz)) (tQ (some (.int r)) (tPost g P τ (va_A (wC g P σ) sz)) (va_A (wC g P σ) sz)) 0 0 (va_A (wC g P σ) sz) := by
  refine T_start (B := fun A => tPost g P τ A) (by decide) (Nat.le_of_ble_eq_true rfl) ?_
  intro p e s m args below meth c ls0 A hx hb hml hr hown hlocks ht hnm hK hZ hA hB0 hl0
  have hL_8 : ∀ (x1 : Int32) (n : Nat) (x4 : Int32) (σ1 : Hp) (H : Heap) (locs : List Loc) (ls : Array Slot), iter (f_X12_goesOf_s8 x1) n (x4, σ1) = some (r, τ) → tB g P σ1 A s.heap H locs → lv_has ls 5 [(0, .ref (gL g 40)), (1, .int x1), (4, .int x4)] → WQ p l e { frames := 3, cells := 0, slots := 0, locals := 82 } s m args below meth c g P A (some (.int r)) τ H locs (F0 m 8 ls []) := by
    intro x1 n
    induction n with
    | zero =>
      intro x4 σ1 H locs ls h hB hl
      exact (iter_0 h).elim
    | succ n ih1 =>
      intro x4 σ1 H locs ls h hB hl
      replace h := iter_eq h; obtain ⟨z1, hh1, hx1⟩ := h
      have h : f_X12_goesOf_t8 x1 x4 σ1 = some z1 := hh1
      clear hh1
      unfold f_X12_goesOf_t8 at h
      refine lv_iload hx hb dX12_goesOf_8 (lv_at hl 2 rfl) ?_
      refine lv_sipush (v := 200) hx hb dX12_goesOf_10 (by decide) ?_
      refine lv_icmp_gt (tgt := 60) hx hb dX12_goesOf_13 (by decide) (fun c_1 => ?_) (fun c_1 => ?_)
      · replace h := itp h c_1
        replace h := ex_eq h; obtain ⟨b1, h, hz1⟩ := h
        subst hz1
        have hz1 := (itk_inr hx1).symm
        subst hz1
        refine lv_iconst (v := -1) hx hb dX12_goesOf_60 (by decide) ?_
        obtain ⟨rfl, rfl⟩ := Prod.mk.inj (Option.some.inj h)
        exact W.iret hx hb hr (R_end hB) hB.2.2.2.2 dX12_goesOf_61
      · replace h := itn h c_1
        refine lv_aload_n hx hb dX12_goesOf_16 rfl (lv_at hl 0 rfl) ?_
        refine R_get (v := .long (hJ σ1 40 28)) hx hb ht ui_X12 hown hK hB (by decide) (cell_8 rfl) rfl 28 (by decide) (ht _ tw944) (fun _ h9 => h9) rfl dX12_goesOf_17 ?_
        refine lv_ldc2 (v := -1) hx hb hown (ht _ tw1089) dX12_goesOf_20 ?_
        refine W.lcmp hx hb dX12_goesOf_23 ?_
        refine lv_if_eq (tgt := 60) hx hb dX12_goesOf_24 (by decide) (fun c_2 => ?_) (fun c_2 => ?_)
        · replace h := itp h c_2
          replace h := ex_eq h; obtain ⟨b1, h, hz1⟩ := h
          subst hz1
          have hz1 := (itk_inr hx1).symm
          subst hz1
          refine lv_iconst (v := -1) hx hb dX12_goesOf_60 (by decide) ?_
          obtain ⟨rfl, rfl⟩ := Prod.mk.inj (Option.some.inj h)
          exact W.iret hx hb hr (R_end hB) hB.2.2.2.2 dX12_goesOf_61
        · replace h := itn h c_2
          refine lv_aload_n hx hb dX12_goesOf_27 rfl (lv_at hl 0 rfl) ?_
          refine lv_aload_n hx hb dX12_goesOf_28 rfl (lv_at hl 0 rfl) ?_
          refine R_get (v := .long (hJ σ1 40 28)) hx hb ht ui_X12 hown hK hB (by decide) (cell_8 rfl) rfl 28 (by decide) (ht _ tw944) (fun _ h9 => h9) rfl dX12_goesOf_29 ?_
          replace h := b2_eq h; obtain ⟨r_3, s_4, hc_5, h⟩ := h
          refine R_call (rest := []) [.int r_3] (R_runV (n := 1) (As := [.long (hJ σ1 40 28)]) ⟨hx, hb, hml, hown, ht⟩ (fun _ h9 => h9) hK hZ hA hB (c_X12_isAlike l g P σ1 (hJ σ1 40 28) H.size hc_5) (R_recv hK hB (by decide) (cell_8 rfl) rfl) tw1185 tw1182 tw1184 pw46 tw5 ⟨by decide, by decide, by decide⟩ rfl rfl ⟨Nat.le_of_ble_eq_true rfl, Nat.le_of_ble_eq_true rfl⟩ rfl hl.1 rfl (Nat.le_of_ble_eq_true rfl) dX12_goesOf_32 ⟨Nat.zero_le _, Nat.zero_le _⟩) hB hA rfl (fun H locs hB => ?_)
          refine lv_if_eq (tgt := 41) hx hb dX12_goesOf_35 (by decide) (fun c_6 => ?_) (fun c_6 => ?_)
          · replace h := itp h c_6
            refine lv_aload_n hx hb dX12_goesOf_41 rfl (lv_at hl 0 rfl) ?_
            refine lv_aload_n hx hb dX12_goesOf_42 rfl (lv_at hl 0 rfl) ?_
            refine lv_iload_n hx hb dX12_goesOf_43 rfl (lv_at hl 1 rfl) ?_
            refine lv_aload_n hx hb dX12_goesOf_44 rfl (lv_at hl 0 rfl) ?_
            refine R_get (v := .long (hJ s_4 40 28)) hx hb ht ui_X12 hown hK hB (by decide) (cell_8 rfl) rfl 28 (by decide) (ht _ tw944) (fun _ h9 => h9) rfl dX12_goesOf_45 ?_
            replace h := b2_eq h; obtain ⟨r_7, s_8, hc_9, h⟩ := h
            refine R_call (rest := [.ref (gL g 40)]) [.long r_7, .ref (gL g 40)] (R_runV (n := 2) (As := [.int x1, .long (hJ s_4 40 28)]) ⟨hx, hb, hml, hown, ht⟩ (fun _ h9 => h9) hK hZ hA hB (c_X12_nextOf l g P s_4 x1 (hJ s_4 40 28) H.size hc_9) (R_recv hK hB (by decide) (cell_8 rfl) rfl) tw1075 tw1072 tw1074 pw28 tw5 ⟨by decide, by decide, by decide⟩ rfl rfl ⟨Nat.le_of_ble_eq_true rfl, Nat.le_of_ble_eq_true rfl⟩ rfl hl.1 rfl (Nat.le_of_ble_eq_true rfl) dX12_goesOf_48 ⟨Nat.zero_le _, Nat.zero_le _⟩) hB hA rfl (fun H locs hB => ?_)
            refine R_putJ (v := r_7) hx hb ht ui_X12 tyX12 tyX12_ok nmX12 hown hK hB (by decide) (cell_8 rfl) rfl 28 (by decide) (ht _ tw944) (fun _ h9 => h9) rfl (by decide +kernel) (Nat.le_of_ble_eq_true rfl) (st8_28J rfl) dX12_goesOf_51 (fun H locs hB => ?_)
            refine lv_iinc (v := x4 + 1) (lv' := [(4, .int (x4 + 1)), (0, .ref (gL g 40)), (1, .int x1)]) hx hb dX12_goesOf_54 hl (k := 2) rfl rfl (by decide) rfl (fun ls hl => ?_)
            refine lv_goto (tgt := 8) hx hb dX12_goesOf_57 (by decide) ?_
            obtain rfl := Option.some.inj h
            exact ih1 (x4 + 1) (sJ s_8 40 28 r_7) H locs ls hx1 hB (lv_sub hl [1, 2, 0] rfl)
          · replace h := itn h c_6
            replace h := ex_eq h; obtain ⟨b1, h, hz1⟩ := h
            subst hz1
            have hz1 := (itk_inr hx1).symm
            subst hz1
            refine lv_iload hx hb dX12_goesOf_38 (lv_at hl 2 rfl) ?_
            obtain ⟨rfl, rfl⟩ := Prod.mk.inj (Option.some.inj h)
            exact W.iret hx hb hr (R_end hB) hB.2.2.2.2 dX12_goesOf_40
  suffices hmain : ∀ (H : Heap) (locs : List Loc) (ls : Array Slot), tB g P σ A s.heap H locs → lv_has ls 5 [(0, .ref (gL g 40)), (1, .int a1), (2, .long a2)] → WQ p l e { frames := 3, cells := 0, slots := 0, locals := 82 } s m args below meth c g P A (some (.int r)) τ H locs (F0 m 0 ls []) from hmain _ _ ls0 hB0 hl0
  intro H locs ls hB hl
  unfold f_X12_goesOf at h
  refine lv_aload_n hx hb dX12_goesOf_0 rfl (lv_at hl 0 rfl) ?_
  refine lv_lload_n hx hb dX12_goesOf_1 rfl (lv_at hl 2 rfl) ?_
  refine R_putJ (v := a2) hx hb ht ui_X12 tyX12 tyX12_ok nmX12 hown hK hB (by decide) (cell_8 rfl) rfl 28 (by decide) (ht _ tw944) (fun _ h9 => h9) rfl (by decide +kernel) (Nat.le_of_ble_eq_true rfl) (st8_28J rfl) dX12_goesOf_2 (fun H locs hB => ?_)
  refine lv_iconst (v := 0) hx hb dX12_goesOf_5 (by decide) ?_
  refine lv_istore (lv' := [(4, .int (0 : Int32)), (0, .ref (gL g 40)), (1, .int a1), (2, .long a2)]) hx hb dX12_goesOf_6 hl (by decide) rfl (fun ls hl => ?_)
  exact hL_8 a1 fuel (0 : Int32) (sJ σ 40 28 a2) H locs ls h hB (lv_sub hl [1, 2, 0] rfl)
def f_X12_goes (a1 : Int32) (a2 : Int64) (σ : Hp) : Option (Int32 × Hp) := b2 (f_X12_isLaw a1 σ) (fun r_1 s_2 => if r_1 = 0 then b2 (f_X12_noTen (-1 : Int32) s_2) (fun r_15 s_16 => some (r_15, s_16)) else b2 (f_X12_isNumber a2 s_2) (fun r_5 s_6 => if r_5 = 0 then b2 (f_X12_noTen (-6 : Int32) s_6) (fun r_9 s_10 => some (r_9, s_10)) else b2 (f_X12_goesOf a1 a2 s_6) (fun r_12 s_13 => some (r_12, s_13))))
set_option maxHeartbeats 4000000 in
set_option maxRecDepth 100000 in
theorem c_X12_goes (l : Launch) (g : tG) (P : Nat → Nat) (σ : Hp) (a1 : Int32) (a2 : Int64) (sz : Nat) {r : Int32} {τ : Hp} (h : f_X12_goes a1 a2 σ = some (r, τ)) : Met l yX12_goes (Cond.code yX12_goes cX12_goes 4 (some .int) :: tblG) ({ frames := 4, cells := 0, slots := 0, locals := 106 }) (va_Pc [.ref (gL g 40), .int a1, .long a2] (tPre g P σ sz)) (tQ (some (.int r)) (tPost g P τ (va_A (wC g P σ) sz)) (va_A (wC g P σ) sz)) 0 0 (va_A (wC g P σ) sz) := by
  refine T_start (B := fun A => tPost g P τ A) (by decide) (Nat.le_of_ble_eq_true rfl) ?_
  intro p e s m args below meth c ls0 A hx hb hml hr hown hlocks ht hnm hK hZ hA hB0 hl0
  suffices hmain : ∀ (H : Heap) (locs : List Loc) (ls : Array Slot), tB g P σ A s.heap H locs → lv_has ls 4 [(0, .ref (gL g 40)), (1, .int a1), (2, .long a2)] → WQ p l e { frames := 4, cells := 0, slots := 0, locals := 106 } s m args below meth c g P A (some (.int r)) τ H locs (F0 m 0 ls []) from hmain _ _ ls0 hB0 hl0
  intro H locs ls hB hl
  unfold f_X12_goes at h
  refine lv_aload_n hx hb dX12_goes_0 rfl (lv_at hl 0 rfl) ?_
  refine lv_iload_n hx hb dX12_goes_1 rfl (lv_at hl 1 rfl) ?_
  replace h := b2_eq h; obtain ⟨r_1, s_2, hc_3, h⟩ := h
  refine R_call (rest := []) [.int r_1] (R_runV (n := 1) (As := [.int a1]) ⟨hx, hb, hml, hown, ht⟩ (fun _ h9 => h9) hK hZ hA hB (c_X12_isLaw l g P σ a1 H.size hc_3) (R_recv hK hB (by decide) (cell_8 rfl) rfl) tw1062 tw1059 tw1061 pw27 tw5 ⟨by decide, by decide, by decide⟩ rfl rfl ⟨Nat.le_of_ble_eq_true rfl, Nat.le_of_ble_eq_true rfl⟩ rfl hl.1 rfl (Nat.le_of_ble_eq_true rfl) dX12_goes_2 ⟨Nat.zero_le _, Nat.zero_le _⟩) hB hA rfl (fun H locs hB => ?_)
  refine lv_if_ne (tgt := 14) hx hb dX12_goes_5 (by decide) (fun c_4 => ?_) (fun c_4 => ?_)
  · replace h := itn h c_4
    refine lv_aload_n hx hb dX12_goes_14 rfl (lv_at hl 0 rfl) ?_
    refine lv_lload_n hx hb dX12_goes_15 rfl (lv_at hl 2 rfl) ?_
    replace h := b2_eq h; obtain ⟨r_5, s_6, hc_7, h⟩ := h
    refine R_call (rest := []) [.int r_5] (R_runV (n := 1) (As := [.long a2]) ⟨hx, hb, hml, hown, ht⟩ (fun _ h9 => h9) hK hZ hA hB (c_X12_isNumber l g P s_2 a2 H.size hc_7) (R_recv hK hB (by decide) (cell_8 rfl) rfl) tw1177 tw1174 tw1176 pw45 tw5 ⟨by decide, by decide, by decide⟩ rfl rfl ⟨Nat.le_of_ble_eq_true rfl, Nat.le_of_ble_eq_true rfl⟩ rfl hl.1 rfl (Nat.le_of_ble_eq_true rfl) dX12_goes_16 ⟨Nat.zero_le _, Nat.zero_le _⟩) hB hA rfl (fun H locs hB => ?_)
    refine lv_if_eq (tgt := 31) hx hb dX12_goes_19 (by decide) (fun c_8 => ?_) (fun c_8 => ?_)
    · replace h := itp h c_8
      refine lv_aload_n hx hb dX12_goes_31 rfl (lv_at hl 0 rfl) ?_
      refine lv_bipush (v := -6) hx hb dX12_goes_32 (by decide) ?_
      replace h := b2_eq h; obtain ⟨r_9, s_10, hc_11, h⟩ := h
      refine R_call (rest := []) [.int r_9] (R_runV (n := 1) (As := [.int (-6 : Int32)]) ⟨hx, hb, hml, hown, ht⟩ (fun _ h9 => h9) hK hZ hA hB (c_X12_noTen l g P s_6 (-6 : Int32) H.size hc_11) (R_recv hK hB (by decide) (cell_8 rfl) rfl) tw1209 tw1206 tw1208 pw49 tw5 ⟨by decide, by decide, by decide⟩ rfl rfl ⟨Nat.le_of_ble_eq_true rfl, Nat.le_of_ble_eq_true rfl⟩ rfl hl.1 rfl (Nat.le_of_ble_eq_true rfl) dX12_goes_34 ⟨Nat.zero_le _, Nat.zero_le _⟩) hB hA rfl (fun H locs hB => ?_)
      obtain ⟨rfl, rfl⟩ := Prod.mk.inj (Option.some.inj h)
      exact W.iret hx hb hr (R_end hB) hB.2.2.2.2 dX12_goes_37
    · replace h := itn h c_8
      refine lv_aload_n hx hb dX12_goes_22 rfl (lv_at hl 0 rfl) ?_
      refine lv_iload_n hx hb dX12_goes_23 rfl (lv_at hl 1 rfl) ?_
      refine lv_lload_n hx hb dX12_goes_24 rfl (lv_at hl 2 rfl) ?_
      replace h := b2_eq h; obtain ⟨r_12, s_13, hc_14, h⟩ := h
      refine R_call (rest := []) [.int r_12] (R_runV (n := 2) (As := [.int a1, .long a2]) ⟨hx, hb, hml, hown, ht⟩ (fun _ h9 => h9) hK hZ hA hB (c_X12_goesOf l g P s_6 a1 a2 H.size hc_14) (R_recv hK hB (by decide) (cell_8 rfl) rfl) tw1213 tw1210 tw1212 pw50 tw5 ⟨by decide, by decide, by decide⟩ rfl rfl ⟨Nat.le_of_ble_eq_true rfl, Nat.le_of_ble_eq_true rfl⟩ rfl hl.1 rfl (Nat.le_of_ble_eq_true rfl) dX12_goes_25 ⟨Nat.zero_le _, Nat.zero_le _⟩) hB hA rfl (fun H locs hB => ?_)
      refine lv_goto (tgt := 37) hx hb dX12_goes_28 (by decide) ?_
      obtain ⟨rfl, rfl⟩ := Prod.mk.inj (Option.some.inj h)
      exact W.iret hx hb hr (R_end hB) hB.2.2.2.2 dX12_goes_37
  · replace h := itp h c_4
    refine lv_aload_n hx hb dX12_goes_8 rfl (lv_at hl 0 rfl) ?_
    refine lv_iconst (v := -1) hx hb dX12_goes_9 (by decide) ?_
    replace h := b2_eq h; obtain ⟨r_15, s_16, hc_17, h⟩ := h
    refine R_call (rest := []) [.int r_15] (R_runV (n := 1) (As := [.int (-1 : Int32)]) ⟨hx, hb, hml, hown, ht⟩ (fun _ h9 => h9) hK hZ hA hB (c_X12_noTen l g P s_2 (-1 : Int32) H.size hc_17) (R_recv hK hB (by decide) (cell_8 rfl) rfl) tw1209 tw1206 tw1208 pw49 tw5 ⟨by decide, by decide, by decide⟩ rfl rfl ⟨Nat.le_of_ble_eq_true rfl, Nat.le_of_ble_eq_true rfl⟩ rfl hl.1 rfl (Nat.le_of_ble_eq_true rfl) dX12_goes_10 ⟨Nat.zero_le _, Nat.zero_le _⟩) hB hA rfl (fun H locs hB => ?_)
    obtain ⟨rfl, rfl⟩ := Prod.mk.inj (Option.some.inj h)
    exact W.iret hx hb hr (R_end hB) hB.2.2.2.2 dX12_goes_13
def f_X12_comes (a1 : Int32) (a2 : Int64) (σ : Hp) : Option (Int64 × Hp) := b2 (f_X12_isLaw a1 σ) (fun r_1 s_2 => if r_1 = 0 then b2 (f_X12_no (-1 : Int32) s_2) (fun r_19 s_20 => some (r_19.toInt64, s_20)) else b2 (f_X12_isNumber a2 s_2) (fun r_5 s_6 => if r_5 = 0 then b2 (f_X12_no (-6 : Int32) s_6) (fun r_16 s_17 => some (r_16.toInt64, s_17)) else b2 (f_X12_goesOf a1 a2 s_6) (fun r_9 s_10 => if r_9 = (-1 : Int32) then b2 (f_X12_no (-5 : Int32) s_10) (fun r_13 s_14 => some (r_13.toInt64, s_14)) else some ((hJ s_10 40 28), s_10))))
set_option maxHeartbeats 4000000 in
set_option maxRecDepth 100000 in
theorem c_X12_comes (l : Launch) (g : tG) (P : Nat → Nat) (σ : Hp) (a1 : Int32) (a2 : Int64) (sz : Nat) {r : Int64} {τ : Hp} (h : f_X12_comes a1 a2 σ = some (r, τ)) : Met l yX12_comes (Cond.code yX12_comes cX12_comes 4 (some .long) :: tblG) ({ frames := 4, cells := 0, slots := 0, locals := 106 }) (va_Pc [.ref (gL g 40), .int a1, .long a2] (tPre g P σ sz)) (tQ (some (.long r)) (tPost g P τ (va_A (wC g P σ) sz)) (va_A (wC g P σ) sz)) 0 0 (va_A (wC g P σ) sz) := by
  refine T_start (B := fun A => tPost g P τ A) (by decide) (Nat.le_of_ble_eq_true rfl) ?_
  intro p e s m args below meth c ls0 A hx hb hml hr hown hlocks ht hnm hK hZ hA hB0 hl0
  suffices hmain : ∀ (H : Heap) (locs : List Loc) (ls : Array Slot), tB g P σ A s.heap H locs → lv_has ls 4 [(0, .ref (gL g 40)), (1, .int a1), (2, .long a2)] → WQ p l e { frames := 4, cells := 0, slots := 0, locals := 106 } s m args below meth c g P A (some (.long r)) τ H locs (F0 m 0 ls []) from hmain _ _ ls0 hB0 hl0
  intro H locs ls hB hl
  unfold f_X12_comes at h
  refine lv_aload_n hx hb dX12_comes_0 rfl (lv_at hl 0 rfl) ?_
  refine lv_iload_n hx hb dX12_comes_1 rfl (lv_at hl 1 rfl) ?_
  replace h := b2_eq h; obtain ⟨r_1, s_2, hc_3, h⟩ := h
  refine R_call (rest := []) [.int r_1] (R_runV (n := 1) (As := [.int a1]) ⟨hx, hb, hml, hown, ht⟩ (fun _ h9 => h9) hK hZ hA hB (c_X12_isLaw l g P σ a1 H.size hc_3) (R_recv hK hB (by decide) (cell_8 rfl) rfl) tw1062 tw1059 tw1061 pw27 tw5 ⟨by decide, by decide, by decide⟩ rfl rfl ⟨Nat.le_of_ble_eq_true rfl, Nat.le_of_ble_eq_true rfl⟩ rfl hl.1 rfl (Nat.le_of_ble_eq_true rfl) dX12_comes_2 ⟨Nat.zero_le _, Nat.zero_le _⟩) hB hA rfl (fun H locs hB => ?_)
  refine lv_if_ne (tgt := 15) hx hb dX12_comes_5 (by decide) (fun c_4 => ?_) (fun c_4 => ?_)
  · replace h := itn h c_4
    refine lv_aload_n hx hb dX12_comes_15 rfl (lv_at hl 0 rfl) ?_
    refine lv_lload_n hx hb dX12_comes_16 rfl (lv_at hl 2 rfl) ?_
    replace h := b2_eq h; obtain ⟨r_5, s_6, hc_7, h⟩ := h
    refine R_call (rest := []) [.int r_5] (R_runV (n := 1) (As := [.long a2]) ⟨hx, hb, hml, hown, ht⟩ (fun _ h9 => h9) hK hZ hA hB (c_X12_isNumber l g P s_2 a2 H.size hc_7) (R_recv hK hB (by decide) (cell_8 rfl) rfl) tw1177 tw1174 tw1176 pw45 tw5 ⟨by decide, by decide, by decide⟩ rfl rfl ⟨Nat.le_of_ble_eq_true rfl, Nat.le_of_ble_eq_true rfl⟩ rfl hl.1 rfl (Nat.le_of_ble_eq_true rfl) dX12_comes_17 ⟨Nat.zero_le _, Nat.zero_le _⟩) hB hA rfl (fun H locs hB => ?_)
    refine lv_if_ne (tgt := 31) hx hb dX12_comes_20 (by decide) (fun c_8 => ?_) (fun c_8 => ?_)
    · replace h := itn h c_8
      refine lv_aload_n hx hb dX12_comes_31 rfl (lv_at hl 0 rfl) ?_
      refine lv_iload_n hx hb dX12_comes_32 rfl (lv_at hl 1 rfl) ?_
      refine lv_lload_n hx hb dX12_comes_33 rfl (lv_at hl 2 rfl) ?_
      replace h := b2_eq h; obtain ⟨r_9, s_10, hc_11, h⟩ := h
      refine R_call (rest := []) [.int r_9] (R_runV (n := 2) (As := [.int a1, .long a2]) ⟨hx, hb, hml, hown, ht⟩ (fun _ h9 => h9) hK hZ hA hB (c_X12_goesOf l g P s_6 a1 a2 H.size hc_11) (R_recv hK hB (by decide) (cell_8 rfl) rfl) tw1213 tw1210 tw1212 pw50 tw5 ⟨by decide, by decide, by decide⟩ rfl rfl ⟨Nat.le_of_ble_eq_true rfl, Nat.le_of_ble_eq_true rfl⟩ rfl hl.1 rfl (Nat.le_of_ble_eq_true rfl) dX12_comes_34 ⟨Nat.zero_le _, Nat.zero_le _⟩) hB hA rfl (fun H locs hB => ?_)
      refine lv_iconst (v := -1) hx hb dX12_comes_37 (by decide) ?_
      refine lv_icmp_ne (tgt := 51) hx hb dX12_comes_38 (by decide) (fun c_12 => ?_) (fun c_12 => ?_)
      · replace h := itn h c_12
        refine lv_aload_n hx hb dX12_comes_51 rfl (lv_at hl 0 rfl) ?_
        refine R_get (v := .long (hJ s_10 40 28)) hx hb ht ui_X12 hown hK hB (by decide) (cell_8 rfl) rfl 28 (by decide) (ht _ tw944) (fun _ h9 => h9) rfl dX12_comes_52 ?_
        obtain ⟨rfl, rfl⟩ := Prod.mk.inj (Option.some.inj h)
        exact W.lret hx hb hr (R_end hB) hB.2.2.2.2 dX12_comes_55
      · replace h := itp h c_12
        refine lv_aload_n hx hb dX12_comes_41 rfl (lv_at hl 0 rfl) ?_
        refine lv_bipush (v := -5) hx hb dX12_comes_42 (by decide) ?_
        replace h := b2_eq h; obtain ⟨r_13, s_14, hc_15, h⟩ := h
        refine R_call (rest := []) [.int r_13] (R_runV (n := 1) (As := [.int (-5 : Int32)]) ⟨hx, hb, hml, hown, ht⟩ (fun _ h9 => h9) hK hZ hA hB (c_X12_no l g P s_10 (-5 : Int32) H.size hc_15) (R_recv hK hB (by decide) (cell_8 rfl) rfl) tw1042 tw1039 tw1041 pw26 tw5 ⟨by decide, by decide, by decide⟩ rfl rfl ⟨Nat.le_of_ble_eq_true rfl, Nat.le_of_ble_eq_true rfl⟩ rfl hl.1 rfl (Nat.le_of_ble_eq_true rfl) dX12_comes_44 ⟨Nat.zero_le _, Nat.zero_le _⟩) hB hA rfl (fun H locs hB => ?_)
        refine lv_i2l (v := r_13.toInt64) hx hb dX12_comes_47 rfl ?_
        refine lv_goto (tgt := 55) hx hb dX12_comes_48 (by decide) ?_
        obtain ⟨rfl, rfl⟩ := Prod.mk.inj (Option.some.inj h)
        exact W.lret hx hb hr (R_end hB) hB.2.2.2.2 dX12_comes_55
    · replace h := itp h c_8
      refine lv_aload_n hx hb dX12_comes_23 rfl (lv_at hl 0 rfl) ?_
      refine lv_bipush (v := -6) hx hb dX12_comes_24 (by decide) ?_
      replace h := b2_eq h; obtain ⟨r_16, s_17, hc_18, h⟩ := h
      refine R_call (rest := []) [.int r_16] (R_runV (n := 1) (As := [.int (-6 : Int32)]) ⟨hx, hb, hml, hown, ht⟩ (fun _ h9 => h9) hK hZ hA hB (c_X12_no l g P s_6 (-6 : Int32) H.size hc_18) (R_recv hK hB (by decide) (cell_8 rfl) rfl) tw1042 tw1039 tw1041 pw26 tw5 ⟨by decide, by decide, by decide⟩ rfl rfl ⟨Nat.le_of_ble_eq_true rfl, Nat.le_of_ble_eq_true rfl⟩ rfl hl.1 rfl (Nat.le_of_ble_eq_true rfl) dX12_comes_26 ⟨Nat.zero_le _, Nat.zero_le _⟩) hB hA rfl (fun H locs hB => ?_)
      refine lv_i2l (v := r_16.toInt64) hx hb dX12_comes_29 rfl ?_
      obtain ⟨rfl, rfl⟩ := Prod.mk.inj (Option.some.inj h)
      exact W.lret hx hb hr (R_end hB) hB.2.2.2.2 dX12_comes_30
  · replace h := itp h c_4
    refine lv_aload_n hx hb dX12_comes_8 rfl (lv_at hl 0 rfl) ?_
    refine lv_iconst (v := -1) hx hb dX12_comes_9 (by decide) ?_
    replace h := b2_eq h; obtain ⟨r_19, s_20, hc_21, h⟩ := h
    refine R_call (rest := []) [.int r_19] (R_runV (n := 1) (As := [.int (-1 : Int32)]) ⟨hx, hb, hml, hown, ht⟩ (fun _ h9 => h9) hK hZ hA hB (c_X12_no l g P s_2 (-1 : Int32) H.size hc_21) (R_recv hK hB (by decide) (cell_8 rfl) rfl) tw1042 tw1039 tw1041 pw26 tw5 ⟨by decide, by decide, by decide⟩ rfl rfl ⟨Nat.le_of_ble_eq_true rfl, Nat.le_of_ble_eq_true rfl⟩ rfl hl.1 rfl (Nat.le_of_ble_eq_true rfl) dX12_comes_10 ⟨Nat.zero_le _, Nat.zero_le _⟩) hB hA rfl (fun H locs hB => ?_)
    refine lv_i2l (v := r_19.toInt64) hx hb dX12_comes_13 rfl ?_
    obtain ⟨rfl, rfl⟩ := Prod.mk.inj (Option.some.inj h)
    exact W.lret hx hb hr (R_end hB) hB.2.2.2.2 dX12_comes_14
def f_X12_roundOf_b148 (x4 : Int32) (x8 : Int32) (xt0 : Int64) (σ1 : Hp) : Option ((Int64 × Int32 × Hp) ⊕ (Int64 × Hp)) := some (.inl (xt0, (x8 + 1), σ1))
def f_X12_roundOf_t116 (x4 : Int32) (x6 : Int64) (x8 : Int32) (σ1 : Hp) : Option ((Int64 × Int32 × Hp) ⊕ (Int64 × Hp)) := if x4 ≤ x8 then ex (some (x6, σ1)) else ck (inb x8 1001 = true) (if 0 ≤ (lg_cmp (hJ σ1 69 x8.toNatClampNeg) x6) then f_X12_roundOf_b148 x4 x8 x6 σ1 else f_X12_roundOf_b148 x4 x8 (hJ σ1 69 x8.toNatClampNeg) σ1)
def f_X12_roundOf_s116 (x4 : Int32) (v : (Int64 × Int32 × Hp)) : Option ((Int64 × Int32 × Hp) ⊕ (Int64 × Hp)) := f_X12_roundOf_t116 x4 v.1 v.2.1 v.2.2
def f_X12_roundOf_t60 (x1 : Int32) (x4 : Int32) (x5 : Int32) (σ1 : Hp) : Option ((Int32 × Hp) ⊕ ((Int32 × Hp) ⊕ (Int64 × Hp))) := if x4 ≤ x5 then ex (some (.inl ((x4 + 1), σ1))) else ck (inb x5 1001 = true) (ck (inb x4 1001 = true) (if (lg_cmp (hJ σ1 69 x5.toNatClampNeg) (hJ σ1 69 x4.toNatClampNeg)) = 0 then ex (ex (iter (f_X12_roundOf_s116 x4) fuel ((hJ (sI (sI σ1 40 31 x5) 40 32 (x4 - x5)) 69 x5.toNatClampNeg), x5, (sI (sI σ1 40 31 x5) 40 32 (x4 - x5))))) else some (.inl ((x5 + 1), σ1))))
def f_X12_roundOf_s60 (x1 : Int32) (x4 : Int32) (v : (Int32 × Hp)) : Option ((Int32 × Hp) ⊕ ((Int32 × Hp) ⊕ (Int64 × Hp))) := f_X12_roundOf_t60 x1 x4 v.1 v.2
def f_X12_roundOf_t10 (x1 : Int32) (x4 : Int32) (σ1 : Hp) : Option ((Int32 × Hp) ⊕ (Int64 × Hp)) := if (1000 : Int32) < x4 then ex (some ((-1 : Int64), σ1)) else ck (inb (x4 - (1 : Int32)) 1001 = true) (b2 (f_X12_nextOf x1 (hJ σ1 69 (x4 - (1 : Int32)).toNatClampNeg) σ1) (fun r_4 s_5 => ck (inb x4 1001 = true) (if (lg_cmp (hJ (sJ s_5 69 x4.toNatClampNeg r_4) 69 x4.toNatClampNeg) (-1 : Int64)) = 0 then ex (some ((-1 : Int64), (sJ s_5 69 x4.toNatClampNeg r_4))) else iter (f_X12_roundOf_s60 x1 x4) fuel ((0 : Int32), (sJ s_5 69 x4.toNatClampNeg r_4)))))
def f_X12_roundOf_s10 (x1 : Int32) (v : (Int32 × Hp)) : Option ((Int32 × Hp) ⊕ (Int64 × Hp)) := f_X12_roundOf_t10 x1 v.1 v.2
def f_X12_roundOf (a1 : Int32) (a2 : Int64) (σ : Hp) : Option (Int64 × Hp) := ck (inb (0 : Int32) 1001 = true) (iter (f_X12_roundOf_s10 a1) fuel ((1 : Int32), (sJ σ 69 (0 : Int32).toNatClampNeg a2)))
set_option maxHeartbeats 4000000 in
set_option maxRecDepth 100000 in
theorem c_X12_roundOf (l : Launch) (g : tG) (P : Nat → Nat) (σ : Hp) (a1 : Int32) (a2 : Int64) (sz : Nat) {r : Int64} {τ : Hp} (h : f_X12_roundOf a1 a2 σ = some (r, τ)) : Met l yX12_roundOf (Cond.code yX12_roundOf cX12_roundOf 9 (some .long) :: tblG) ({ frames := 3, cells := 0, slots := 0, locals := 82 }) (va_Pc [.ref (gL g 40), .int a1, .long a2] (tPre g P σ sz)) (tQ (some (.long r)) (tPost g P τ (va_A (wC g P σ) sz)) (va_A (wC g P σ) sz)) 0 0 (va_A (wC g P σ) sz) := by
  refine T_start (B := fun A => tPost g P τ A) (by decide) (Nat.le_of_ble_eq_true rfl) ?_
  intro p e s m args below meth c ls0 A hx hb hml hr hown hlocks ht hnm hK hZ hA hB0 hl0
  have hL_116 : ∀ (x4 : Int32) (n : Nat) (x6 : Int64) (x8 : Int32) (σ1 : Hp) (H : Heap) (locs : List Loc) (ls : Array Slot), iter (f_X12_roundOf_s116 x4) n (x6, x8, σ1) = some (r, τ) → tB g P σ1 A s.heap H locs → lv_has ls 9 [(0, .ref (gL g 40)), (4, .int x4), (6, .long x6), (8, .int x8)] → WQ p l e { frames := 3, cells := 0, slots := 0, locals := 82 } s m args below meth c g P A (some (.long r)) τ H locs (F0 m 116 ls []) := by
    intro x4 n
    induction n with
    | zero =>
      intro x6 x8 σ1 H locs ls h hB hl
      exact (iter_0 h).elim
    | succ n ih1 =>
      intro x6 x8 σ1 H locs ls h hB hl
      replace h := iter_eq h; obtain ⟨z1, hh1, hx1⟩ := h
      have hb_148 : ∀ (x8 : Int32) (xt0 : Int64) (σ1 : Hp) (H : Heap) (locs : List Loc) (ls : Array Slot), f_X12_roundOf_b148 x4 x8 xt0 σ1 = some z1 → tB g P σ1 A s.heap H locs → lv_has ls 9 [(0, .ref (gL g 40)), (4, .int x4), (8, .int x8)] → WQ p l e { frames := 3, cells := 0, slots := 0, locals := 82 } s m args below meth c g P A (some (.long r)) τ H locs (F0 m 148 ls [.long xt0]) := by
        intro x8 xt0 σ1 H locs ls h hB hl
        unfold f_X12_roundOf_b148 at h
        refine lv_lstore (lv' := [(6, .long xt0), (0, .ref (gL g 40)), (4, .int x4), (8, .int x8)]) hx hb dX12_roundOf_148 hl (by decide) rfl (fun ls hl => ?_)
        refine lv_iinc (v := x8 + 1) (lv' := [(8, .int (x8 + 1)), (6, .long xt0), (0, .ref (gL g 40)), (4, .int x4)]) hx hb dX12_roundOf_150 hl (k := 3) rfl rfl (by decide) rfl (fun ls hl => ?_)
        refine lv_goto (tgt := 116) hx hb dX12_roundOf_153 (by decide) ?_
        obtain rfl := Option.some.inj h
        exact ih1 xt0 (x8 + 1) σ1 H locs ls hx1 hB (lv_sub hl [2, 3, 1, 0] rfl)
      have h : f_X12_roundOf_t116 x4 x6 x8 σ1 = some z1 := hh1
      clear hh1
      unfold f_X12_roundOf_t116 at h
      refine lv_iload hx hb dX12_roundOf_116 (lv_at hl 3 rfl) ?_
      refine lv_iload hx hb dX12_roundOf_118 (lv_at hl 1 rfl) ?_
      refine lv_icmp_ge (tgt := 156) hx hb dX12_roundOf_120 (by decide) (fun c_13 => ?_) (fun c_13 => ?_)
      · replace h := itp h c_13
        replace h := ex_eq h; obtain ⟨b1, h, hz1⟩ := h
        subst hz1
        have hz1 := (itk_inr hx1).symm
        subst hz1
        refine lv_lload hx hb dX12_roundOf_156 (lv_at hl 2 rfl) ?_
        obtain ⟨rfl, rfl⟩ := Prod.mk.inj (Option.some.inj h)
        exact W.lret hx hb hr (R_end hB) hB.2.2.2.2 dX12_roundOf_158
      · replace h := itn h c_13
        refine lv_aload_n hx hb dX12_roundOf_123 rfl (lv_at hl 0 rfl) ?_
        refine R_get (v := .ref (gL g 69)) hx hb ht ui_X12 hown hK hB (by decide) (cell_8 rfl) rfl 29 (by decide) (ht _ tw945) (fun _ h9 => h9) rfl dX12_roundOf_124 ?_
        refine lv_iload hx hb dX12_roundOf_127 (lv_at hl 3 rfl) ?_
        replace h := ck_eq h; obtain ⟨q_14, h⟩ := h
        refine R_lald hx hb hK hB rfl (inb_eq q_14) dX12_roundOf_129 ?_
        refine lv_lload hx hb dX12_roundOf_130 (lv_at hl 2 rfl) ?_
        refine W.lcmp hx hb dX12_roundOf_132 ?_
        refine lv_if_ge (tgt := 146) hx hb dX12_roundOf_133 (by decide) (fun c_15 => ?_) (fun c_15 => ?_)
        · replace h := itp h c_15
          refine lv_lload hx hb dX12_roundOf_146 (lv_at hl 2 rfl) ?_
          exact hb_148 x8 x6 σ1 H locs ls h hB (lv_sub hl [0, 1, 3] rfl)
        · replace h := itn h c_15
          refine lv_aload_n hx hb dX12_roundOf_136 rfl (lv_at hl 0 rfl) ?_
          refine R_get (v := .ref (gL g 69)) hx hb ht ui_X12 hown hK hB (by decide) (cell_8 rfl) rfl 29 (by decide) (ht _ tw945) (fun _ h9 => h9) rfl dX12_roundOf_137 ?_
          refine lv_iload hx hb dX12_roundOf_140 (lv_at hl 3 rfl) ?_
          refine R_lald hx hb hK hB rfl (inb_eq q_14) dX12_roundOf_142 ?_
          refine lv_goto (tgt := 148) hx hb dX12_roundOf_143 (by decide) ?_
          exact hb_148 x8 (hJ σ1 69 x8.toNatClampNeg) σ1 H locs ls h hB (lv_sub hl [0, 1, 3] rfl)
  have hL_10 : ∀ (x1 : Int32) (n : Nat) (x4 : Int32) (σ1 : Hp) (H : Heap) (locs : List Loc) (ls : Array Slot), iter (f_X12_roundOf_s10 x1) n (x4, σ1) = some (r, τ) → tB g P σ1 A s.heap H locs → lv_has ls 9 [(0, .ref (gL g 40)), (1, .int x1), (4, .int x4)] → WQ p l e { frames := 3, cells := 0, slots := 0, locals := 82 } s m args below meth c g P A (some (.long r)) τ H locs (F0 m 10 ls []) := by
    intro x1 n
    induction n with
    | zero =>
      intro x4 σ1 H locs ls h hB hl
      exact (iter_0 h).elim
    | succ n ih1 =>
      intro x4 σ1 H locs ls h hB hl
      replace h := iter_eq h; obtain ⟨z1, hh1, hx1⟩ := h
      have hL_60 : ∀ (x4 : Int32) (n : Nat) (x5 : Int32) (σ1 : Hp) (H : Heap) (locs : List Loc) (ls : Array Slot), iter (f_X12_roundOf_s60 x1 x4) n (x5, σ1) = some z1 → tB g P σ1 A s.heap H locs → lv_has ls 9 [(0, .ref (gL g 40)), (1, .int x1), (4, .int x4), (5, .int x5)] → WQ p l e { frames := 3, cells := 0, slots := 0, locals := 82 } s m args below meth c g P A (some (.long r)) τ H locs (F0 m 60 ls []) := by
        intro x4 n
        induction n with
        | zero =>
          intro x5 σ1 H locs ls h hB hl
          exact (iter_0 h).elim
        | succ n ih2 =>
          intro x5 σ1 H locs ls h hB hl
          replace h := iter_eq h; obtain ⟨z2, hh2, hx2⟩ := h
          have h : f_X12_roundOf_t60 x1 x4 x5 σ1 = some z2 := hh2
          clear hh2
          unfold f_X12_roundOf_t60 at h
          refine lv_iload hx hb dX12_roundOf_60 (lv_at hl 3 rfl) ?_
          refine lv_iload hx hb dX12_roundOf_62 (lv_at hl 2 rfl) ?_
          refine lv_icmp_ge (tgt := 165) hx hb dX12_roundOf_64 (by decide) (fun c_9 => ?_) (fun c_9 => ?_)
          · replace h := itp h c_9
            replace h := ex_eq h; obtain ⟨b2, h, hz2⟩ := h
            subst hz2
            have hz2 := (itk_inr hx2).symm
            subst hz2
            refine lv_iinc (v := x4 + 1) (lv' := [(4, .int (x4 + 1)), (0, .ref (gL g 40)), (1, .int x1), (5, .int x5)]) hx hb dX12_roundOf_165 hl (k := 2) rfl rfl (by decide) rfl (fun ls hl => ?_)
            refine lv_goto (tgt := 10) hx hb dX12_roundOf_168 (by decide) ?_
            obtain rfl := Option.some.inj h
            exact ih1 (x4 + 1) σ1 H locs ls hx1 hB (lv_sub hl [1, 2, 0] rfl)
          · replace h := itn h c_9
            refine lv_aload_n hx hb dX12_roundOf_67 rfl (lv_at hl 0 rfl) ?_
            refine R_get (v := .ref (gL g 69)) hx hb ht ui_X12 hown hK hB (by decide) (cell_8 rfl) rfl 29 (by decide) (ht _ tw945) (fun _ h9 => h9) rfl dX12_roundOf_68 ?_
            refine lv_iload hx hb dX12_roundOf_71 (lv_at hl 3 rfl) ?_
            replace h := ck_eq h; obtain ⟨q_10, h⟩ := h
            refine R_lald hx hb hK hB rfl (inb_eq q_10) dX12_roundOf_73 ?_
            refine lv_aload_n hx hb dX12_roundOf_74 rfl (lv_at hl 0 rfl) ?_
            refine R_get (v := .ref (gL g 69)) hx hb ht ui_X12 hown hK hB (by decide) (cell_8 rfl) rfl 29 (by decide) (ht _ tw945) (fun _ h9 => h9) rfl dX12_roundOf_75 ?_
            refine lv_iload hx hb dX12_roundOf_78 (lv_at hl 2 rfl) ?_
            replace h := ck_eq h; obtain ⟨q_11, h⟩ := h
            refine R_lald hx hb hK hB rfl (inb_eq q_11) dX12_roundOf_80 ?_
            refine W.lcmp hx hb dX12_roundOf_81 ?_
            refine lv_if_eq (tgt := 88) hx hb dX12_roundOf_82 (by decide) (fun c_12 => ?_) (fun c_12 => ?_)
            · replace h := itp h c_12
              replace h := ex_eq h; obtain ⟨b2, h, hz2⟩ := h
              subst hz2
              have hz2 := (itk_inr hx2).symm
              subst hz2
              replace h := ex_eq h; obtain ⟨b1, h, hz1⟩ := h
              subst hz1
              have hz1 := (itk_inr hx1).symm
              subst hz1
              refine lv_aload_n hx hb dX12_roundOf_88 rfl (lv_at hl 0 rfl) ?_
              refine lv_iload hx hb dX12_roundOf_89 (lv_at hl 3 rfl) ?_
              refine R_putI (v := x5) (ty := .int) hx hb ht ui_X12 tyX12 tyX12_ok nmX12 hown hK hB (by decide) (cell_8 rfl) rfl 31 (by decide) (ht _ tw947) (fun _ h9 => h9) rfl (by decide +kernel) rfl rfl (Nat.le_of_ble_eq_true rfl) (st8_31 rfl) dX12_roundOf_91 (fun H locs hB => ?_)
              refine lv_aload_n hx hb dX12_roundOf_94 rfl (lv_at hl 0 rfl) ?_
              refine lv_iload hx hb dX12_roundOf_95 (lv_at hl 2 rfl) ?_
              refine lv_iload hx hb dX12_roundOf_97 (lv_at hl 3 rfl) ?_
              refine lv_isub hx hb dX12_roundOf_99 ?_
              refine R_putI (v := (x4 - x5)) (ty := .int) hx hb ht ui_X12 tyX12 tyX12_ok nmX12 hown hK hB (by decide) (cell_8 rfl) rfl 32 (by decide) (ht _ tw948) (fun _ h9 => h9) rfl (by decide +kernel) rfl rfl (Nat.le_of_ble_eq_true rfl) (st8_32 rfl) dX12_roundOf_100 (fun H locs hB => ?_)
              refine lv_aload_n hx hb dX12_roundOf_103 rfl (lv_at hl 0 rfl) ?_
              refine R_get (v := .ref (gL g 69)) hx hb ht ui_X12 hown hK hB (by decide) (cell_8 rfl) rfl 29 (by decide) (ht _ tw945) (fun _ h9 => h9) rfl dX12_roundOf_104 ?_
              refine lv_iload hx hb dX12_roundOf_107 (lv_at hl 3 rfl) ?_
              refine R_lald hx hb hK hB rfl (inb_eq q_10) dX12_roundOf_109 ?_
              refine lv_lstore (lv' := [(6, .long (hJ (sI (sI σ1 40 31 x5) 40 32 (x4 - x5)) 69 x5.toNatClampNeg)), (0, .ref (gL g 40)), (1, .int x1), (4, .int x4), (5, .int x5)]) hx hb dX12_roundOf_110 hl (by decide) rfl (fun ls hl => ?_)
              refine lv_iload hx hb dX12_roundOf_112 (lv_at hl 4 rfl) ?_
              refine lv_istore (lv' := [(8, .int x5), (6, .long (hJ (sI (sI σ1 40 31 x5) 40 32 (x4 - x5)) 69 x5.toNatClampNeg)), (0, .ref (gL g 40)), (1, .int x1), (4, .int x4), (5, .int x5)]) hx hb dX12_roundOf_114 hl (by decide) rfl (fun ls hl => ?_)
              exact hL_116 x4 fuel (hJ (sI (sI σ1 40 31 x5) 40 32 (x4 - x5)) 69 x5.toNatClampNeg) x5 (sI (sI σ1 40 31 x5) 40 32 (x4 - x5)) H locs ls h hB (lv_sub hl [2, 4, 1, 0] rfl)
            · replace h := itn h c_12
              refine lv_goto (tgt := 159) hx hb dX12_roundOf_85 (by decide) ?_
              refine lv_iinc (v := x5 + 1) (lv' := [(5, .int (x5 + 1)), (0, .ref (gL g 40)), (1, .int x1), (4, .int x4)]) hx hb dX12_roundOf_159 hl (k := 3) rfl rfl (by decide) rfl (fun ls hl => ?_)
              refine lv_goto (tgt := 60) hx hb dX12_roundOf_162 (by decide) ?_
              obtain rfl := Option.some.inj h
              exact ih2 (x5 + 1) σ1 H locs ls hx2 hB (lv_sub hl [1, 2, 3, 0] rfl)
      have h : f_X12_roundOf_t10 x1 x4 σ1 = some z1 := hh1
      clear hh1
      unfold f_X12_roundOf_t10 at h
      refine lv_iload hx hb dX12_roundOf_10 (lv_at hl 2 rfl) ?_
      refine lv_sipush (v := 1000) hx hb dX12_roundOf_12 (by decide) ?_
      refine lv_icmp_gt (tgt := 171) hx hb dX12_roundOf_15 (by decide) (fun c_2 => ?_) (fun c_2 => ?_)
      · replace h := itp h c_2
        replace h := ex_eq h; obtain ⟨b1, h, hz1⟩ := h
        subst hz1
        have hz1 := (itk_inr hx1).symm
        subst hz1
        refine lv_ldc2 (v := -1) hx hb hown (ht _ tw1089) dX12_roundOf_171 ?_
        obtain ⟨rfl, rfl⟩ := Prod.mk.inj (Option.some.inj h)
        exact W.lret hx hb hr (R_end hB) hB.2.2.2.2 dX12_roundOf_174
      · replace h := itn h c_2
        refine lv_aload_n hx hb dX12_roundOf_18 rfl (lv_at hl 0 rfl) ?_
        refine R_get (v := .ref (gL g 69)) hx hb ht ui_X12 hown hK hB (by decide) (cell_8 rfl) rfl 29 (by decide) (ht _ tw945) (fun _ h9 => h9) rfl dX12_roundOf_19 ?_
        refine lv_iload hx hb dX12_roundOf_22 (lv_at hl 2 rfl) ?_
        refine lv_aload_n hx hb dX12_roundOf_24 rfl (lv_at hl 0 rfl) ?_
        refine lv_iload_n hx hb dX12_roundOf_25 rfl (lv_at hl 1 rfl) ?_
        refine lv_aload_n hx hb dX12_roundOf_26 rfl (lv_at hl 0 rfl) ?_
        refine R_get (v := .ref (gL g 69)) hx hb ht ui_X12 hown hK hB (by decide) (cell_8 rfl) rfl 29 (by decide) (ht _ tw945) (fun _ h9 => h9) rfl dX12_roundOf_27 ?_
        refine lv_iload hx hb dX12_roundOf_30 (lv_at hl 2 rfl) ?_
        refine lv_iconst (v := 1) hx hb dX12_roundOf_32 (by decide) ?_
        refine lv_isub hx hb dX12_roundOf_33 ?_
        replace h := ck_eq h; obtain ⟨q_3, h⟩ := h
        refine R_lald hx hb hK hB rfl (inb_eq q_3) dX12_roundOf_34 ?_
        replace h := b2_eq h; obtain ⟨r_4, s_5, hc_6, h⟩ := h
        refine R_call (rest := [.int x4, .ref (gL g 69)]) [.long r_4, .int x4, .ref (gL g 69)] (R_runV (n := 2) (As := [.int x1, .long (hJ σ1 69 (x4 - (1 : Int32)).toNatClampNeg)]) ⟨hx, hb, hml, hown, ht⟩ (fun _ h9 => h9) hK hZ hA hB (c_X12_nextOf l g P σ1 x1 (hJ σ1 69 (x4 - (1 : Int32)).toNatClampNeg) H.size hc_6) (R_recv hK hB (by decide) (cell_8 rfl) rfl) tw1075 tw1072 tw1074 pw28 tw5 ⟨by decide, by decide, by decide⟩ rfl rfl ⟨Nat.le_of_ble_eq_true rfl, Nat.le_of_ble_eq_true rfl⟩ rfl hl.1 rfl (Nat.le_of_ble_eq_true rfl) dX12_roundOf_35 ⟨Nat.zero_le _, Nat.zero_le _⟩) hB hA rfl (fun H locs hB => ?_)
        replace h := ck_eq h; obtain ⟨q_7, h⟩ := h
        refine R_last hx hb hK hB rfl (inb_eq q_7) dX12_roundOf_38 (fun H locs hB => ?_)
        refine lv_aload_n hx hb dX12_roundOf_39 rfl (lv_at hl 0 rfl) ?_
        refine R_get (v := .ref (gL g 69)) hx hb ht ui_X12 hown hK hB (by decide) (cell_8 rfl) rfl 29 (by decide) (ht _ tw945) (fun _ h9 => h9) rfl dX12_roundOf_40 ?_
        refine lv_iload hx hb dX12_roundOf_43 (lv_at hl 2 rfl) ?_
        refine R_lald hx hb hK hB rfl (inb_eq q_7) dX12_roundOf_45 ?_
        refine lv_ldc2 (v := -1) hx hb hown (ht _ tw1089) dX12_roundOf_46 ?_
        refine W.lcmp hx hb dX12_roundOf_49 ?_
        refine lv_if_ne (tgt := 57) hx hb dX12_roundOf_50 (by decide) (fun c_8 => ?_) (fun c_8 => ?_)
        · replace h := itn h c_8
          refine lv_iconst (v := 0) hx hb dX12_roundOf_57 (by decide) ?_
          refine lv_istore (lv' := [(5, .int (0 : Int32)), (0, .ref (gL g 40)), (1, .int x1), (4, .int x4)]) hx hb dX12_roundOf_58 hl (by decide) rfl (fun ls hl => ?_)
          exact hL_60 x4 fuel (0 : Int32) (sJ s_5 69 x4.toNatClampNeg r_4) H locs ls h hB (lv_sub hl [1, 2, 3, 0] rfl)
        · replace h := itp h c_8
          replace h := ex_eq h; obtain ⟨b1, h, hz1⟩ := h
          subst hz1
          have hz1 := (itk_inr hx1).symm
          subst hz1
          refine lv_ldc2 (v := -1) hx hb hown (ht _ tw1089) dX12_roundOf_53 ?_
          obtain ⟨rfl, rfl⟩ := Prod.mk.inj (Option.some.inj h)
          exact W.lret hx hb hr (R_end hB) hB.2.2.2.2 dX12_roundOf_56
  suffices hmain : ∀ (H : Heap) (locs : List Loc) (ls : Array Slot), tB g P σ A s.heap H locs → lv_has ls 9 [(0, .ref (gL g 40)), (1, .int a1), (2, .long a2)] → WQ p l e { frames := 3, cells := 0, slots := 0, locals := 82 } s m args below meth c g P A (some (.long r)) τ H locs (F0 m 0 ls []) from hmain _ _ ls0 hB0 hl0
  intro H locs ls hB hl
  unfold f_X12_roundOf at h
  refine lv_aload_n hx hb dX12_roundOf_0 rfl (lv_at hl 0 rfl) ?_
  refine R_get (v := .ref (gL g 69)) hx hb ht ui_X12 hown hK hB (by decide) (cell_8 rfl) rfl 29 (by decide) (ht _ tw945) (fun _ h9 => h9) rfl dX12_roundOf_1 ?_
  refine lv_iconst (v := 0) hx hb dX12_roundOf_4 (by decide) ?_
  refine lv_lload_n hx hb dX12_roundOf_5 rfl (lv_at hl 2 rfl) ?_
  replace h := ck_eq h; obtain ⟨q_1, h⟩ := h
  refine R_last hx hb hK hB rfl (inb_eq q_1) dX12_roundOf_6 (fun H locs hB => ?_)
  refine lv_iconst (v := 1) hx hb dX12_roundOf_7 (by decide) ?_
  refine lv_istore (lv' := [(4, .int (1 : Int32)), (0, .ref (gL g 40)), (1, .int a1), (2, .long a2)]) hx hb dX12_roundOf_8 hl (by decide) rfl (fun ls hl => ?_)
  exact hL_10 a1 fuel (1 : Int32) (sJ σ 69 (0 : Int32).toNatClampNeg a2) H locs ls h hB (lv_sub hl [1, 2, 0] rfl)
def f_X12_round_b26 (σ1 : Hp) : Option (Int64 × Hp) := b2 (f_X12_no (-5 : Int32) σ1) (fun r_6 s_7 => some (r_6.toInt64, s_7))
def f_X12_round (a1 : Int32) (a2 : Int64) (a4 : Int32) (σ : Hp) : Option (Int64 × Hp) := b2 (f_X12_isLaw a1 σ) (fun r_1 s_2 => if r_1 = 0 then b2 (f_X12_no (-1 : Int32) s_2) (fun r_26 s_27 => some (r_26.toInt64, s_27)) else if a4 < 0 then f_X12_round_b26 s_2 else if a4 ≤ (2 : Int32) then b2 (f_X12_isNumber a2 s_2) (fun r_10 s_11 => if r_10 = 0 then b2 (f_X12_no (-6 : Int32) s_11) (fun r_23 s_24 => some (r_23.toInt64, s_24)) else b2 (f_X12_roundOf a1 a2 s_11) (fun r_14 s_15 => if (lg_cmp r_14 (-1 : Int64)) = 0 then b2 (f_X12_no (-5 : Int32) s_15) (fun r_20 s_21 => some (r_20.toInt64, s_21)) else if a4 = 0 then some ((hI s_15 40 31).toInt64, s_15) else if a4 = (1 : Int32) then some ((hI s_15 40 32).toInt64, s_15) else some (r_14, s_15))) else f_X12_round_b26 s_2)
set_option maxHeartbeats 4000000 in
set_option maxRecDepth 100000 in
theorem c_X12_round (l : Launch) (g : tG) (P : Nat → Nat) (σ : Hp) (a1 : Int32) (a2 : Int64) (a4 : Int32) (sz : Nat) {r : Int64} {τ : Hp} (h : f_X12_round a1 a2 a4 σ = some (r, τ)) : Met l yX12_round (Cond.code yX12_round cX12_round 7 (some .long) :: tblG) ({ frames := 4, cells := 0, slots := 0, locals := 110 }) (va_Pc [.ref (gL g 40), .int a1, .long a2, .int a4] (tPre g P σ sz)) (tQ (some (.long r)) (tPost g P τ (va_A (wC g P σ) sz)) (va_A (wC g P σ) sz)) 0 0 (va_A (wC g P σ) sz) := by
  refine T_start (B := fun A => tPost g P τ A) (by decide) (Nat.le_of_ble_eq_true rfl) ?_
  intro p e s m args below meth c ls0 A hx hb hml hr hown hlocks ht hnm hK hZ hA hB0 hl0
  have hb_26 : ∀ (σ1 : Hp) (H : Heap) (locs : List Loc) (ls : Array Slot), f_X12_round_b26 σ1 = some (r, τ) → tB g P σ1 A s.heap H locs → lv_has ls 7 [(0, .ref (gL g 40))] → WQ p l e { frames := 4, cells := 0, slots := 0, locals := 110 } s m args below meth c g P A (some (.long r)) τ H locs (F0 m 26 ls []) := by
    intro σ1 H locs ls h hB hl
    unfold f_X12_round_b26 at h
    refine lv_aload_n hx hb dX12_round_26 rfl (lv_at hl 0 rfl) ?_
    refine lv_bipush (v := -5) hx hb dX12_round_27 (by decide) ?_
    replace h := b2_eq h; obtain ⟨r_6, s_7, hc_8, h⟩ := h
    refine R_call (rest := []) [.int r_6] (R_runV (n := 1) (As := [.int (-5 : Int32)]) ⟨hx, hb, hml, hown, ht⟩ (fun _ h9 => h9) hK hZ hA hB (c_X12_no l g P σ1 (-5 : Int32) H.size hc_8) (R_recv hK hB (by decide) (cell_8 rfl) rfl) tw1042 tw1039 tw1041 pw26 tw5 ⟨by decide, by decide, by decide⟩ rfl rfl ⟨Nat.le_of_ble_eq_true rfl, Nat.le_of_ble_eq_true rfl⟩ rfl hl.1 rfl (Nat.le_of_ble_eq_true rfl) dX12_round_29 ⟨Nat.zero_le _, Nat.zero_le _⟩) hB hA rfl (fun H locs hB => ?_)
    refine lv_i2l (v := r_6.toInt64) hx hb dX12_round_32 rfl ?_
    obtain ⟨rfl, rfl⟩ := Prod.mk.inj (Option.some.inj h)
    exact W.lret hx hb hr (R_end hB) hB.2.2.2.2 dX12_round_33
  suffices hmain : ∀ (H : Heap) (locs : List Loc) (ls : Array Slot), tB g P σ A s.heap H locs → lv_has ls 7 [(0, .ref (gL g 40)), (1, .int a1), (2, .long a2), (4, .int a4)] → WQ p l e { frames := 4, cells := 0, slots := 0, locals := 110 } s m args below meth c g P A (some (.long r)) τ H locs (F0 m 0 ls []) from hmain _ _ ls0 hB0 hl0
  intro H locs ls hB hl
  unfold f_X12_round at h
  refine lv_aload_n hx hb dX12_round_0 rfl (lv_at hl 0 rfl) ?_
  refine lv_iload_n hx hb dX12_round_1 rfl (lv_at hl 1 rfl) ?_
  replace h := b2_eq h; obtain ⟨r_1, s_2, hc_3, h⟩ := h
  refine R_call (rest := []) [.int r_1] (R_runV (n := 1) (As := [.int a1]) ⟨hx, hb, hml, hown, ht⟩ (fun _ h9 => h9) hK hZ hA hB (c_X12_isLaw l g P σ a1 H.size hc_3) (R_recv hK hB (by decide) (cell_8 rfl) rfl) tw1062 tw1059 tw1061 pw27 tw5 ⟨by decide, by decide, by decide⟩ rfl rfl ⟨Nat.le_of_ble_eq_true rfl, Nat.le_of_ble_eq_true rfl⟩ rfl hl.1 rfl (Nat.le_of_ble_eq_true rfl) dX12_round_2 ⟨Nat.zero_le _, Nat.zero_le _⟩) hB hA rfl (fun H locs hB => ?_)
  refine lv_if_ne (tgt := 15) hx hb dX12_round_5 (by decide) (fun c_4 => ?_) (fun c_4 => ?_)
  · replace h := itn h c_4
    refine lv_iload hx hb dX12_round_15 (lv_at hl 3 rfl) ?_
    refine lv_if_lt (tgt := 26) hx hb dX12_round_17 (by decide) (fun c_5 => ?_) (fun c_5 => ?_)
    · replace h := itp h c_5
      exact hb_26 s_2 H locs ls h hB (lv_sub hl [0] rfl)
    · replace h := itn h c_5
      refine lv_iload hx hb dX12_round_20 (lv_at hl 3 rfl) ?_
      refine lv_iconst (v := 2) hx hb dX12_round_22 (by decide) ?_
      refine lv_icmp_le (tgt := 34) hx hb dX12_round_23 (by decide) (fun c_9 => ?_) (fun c_9 => ?_)
      · replace h := itp h c_9
        refine lv_aload_n hx hb dX12_round_34 rfl (lv_at hl 0 rfl) ?_
        refine lv_lload_n hx hb dX12_round_35 rfl (lv_at hl 2 rfl) ?_
        replace h := b2_eq h; obtain ⟨r_10, s_11, hc_12, h⟩ := h
        refine R_call (rest := []) [.int r_10] (R_runV (n := 1) (As := [.long a2]) ⟨hx, hb, hml, hown, ht⟩ (fun _ h9 => h9) hK hZ hA hB (c_X12_isNumber l g P s_2 a2 H.size hc_12) (R_recv hK hB (by decide) (cell_8 rfl) rfl) tw1177 tw1174 tw1176 pw45 tw5 ⟨by decide, by decide, by decide⟩ rfl rfl ⟨Nat.le_of_ble_eq_true rfl, Nat.le_of_ble_eq_true rfl⟩ rfl hl.1 rfl (Nat.le_of_ble_eq_true rfl) dX12_round_36 ⟨Nat.zero_le _, Nat.zero_le _⟩) hB hA rfl (fun H locs hB => ?_)
        refine lv_if_ne (tgt := 50) hx hb dX12_round_39 (by decide) (fun c_13 => ?_) (fun c_13 => ?_)
        · replace h := itn h c_13
          refine lv_aload_n hx hb dX12_round_50 rfl (lv_at hl 0 rfl) ?_
          refine lv_iload_n hx hb dX12_round_51 rfl (lv_at hl 1 rfl) ?_
          refine lv_lload_n hx hb dX12_round_52 rfl (lv_at hl 2 rfl) ?_
          replace h := b2_eq h; obtain ⟨r_14, s_15, hc_16, h⟩ := h
          refine R_call (rest := []) [.long r_14] (R_runV (n := 2) (As := [.int a1, .long a2]) ⟨hx, hb, hml, hown, ht⟩ (fun _ h9 => h9) hK hZ hA hB (c_X12_roundOf l g P s_11 a1 a2 H.size hc_16) (R_recv hK hB (by decide) (cell_8 rfl) rfl) tw1225 tw1222 tw1224 pw51 tw5 ⟨by decide, by decide, by decide⟩ rfl rfl ⟨Nat.le_of_ble_eq_true rfl, Nat.le_of_ble_eq_true rfl⟩ rfl hl.1 rfl (Nat.le_of_ble_eq_true rfl) dX12_round_53 ⟨Nat.zero_le _, Nat.zero_le _⟩) hB hA rfl (fun H locs hB => ?_)
          refine lv_lstore (lv' := [(5, .long r_14), (0, .ref (gL g 40)), (1, .int a1), (2, .long a2), (4, .int a4)]) hx hb dX12_round_56 hl (by decide) rfl (fun ls hl => ?_)
          refine lv_lload hx hb dX12_round_58 (lv_at hl 0 rfl) ?_
          refine lv_ldc2 (v := -1) hx hb hown (ht _ tw1089) dX12_round_60 ?_
          refine W.lcmp hx hb dX12_round_63 ?_
          refine lv_if_ne (tgt := 77) hx hb dX12_round_64 (by decide) (fun c_17 => ?_) (fun c_17 => ?_)
          · replace h := itn h c_17
            refine lv_iload hx hb dX12_round_77 (lv_at hl 4 rfl) ?_
            refine lv_if_ne (tgt := 90) hx hb dX12_round_79 (by decide) (fun c_18 => ?_) (fun c_18 => ?_)
            · replace h := itn h c_18
              refine lv_iload hx hb dX12_round_90 (lv_at hl 4 rfl) ?_
              refine lv_iconst (v := 1) hx hb dX12_round_92 (by decide) ?_
              refine lv_icmp_ne (tgt := 104) hx hb dX12_round_93 (by decide) (fun c_19 => ?_) (fun c_19 => ?_)
              · replace h := itn h c_19
                refine lv_lload hx hb dX12_round_104 (lv_at hl 0 rfl) ?_
                obtain ⟨rfl, rfl⟩ := Prod.mk.inj (Option.some.inj h)
                exact W.lret hx hb hr (R_end hB) hB.2.2.2.2 dX12_round_106
              · replace h := itp h c_19
                refine lv_aload_n hx hb dX12_round_96 rfl (lv_at hl 1 rfl) ?_
                refine R_get (v := .int (hI s_15 40 32)) hx hb ht ui_X12 hown hK hB (by decide) (cell_8 rfl) rfl 32 (by decide) (ht _ tw948) (fun _ h9 => h9) rfl dX12_round_97 ?_
                refine lv_i2l (v := (hI s_15 40 32).toInt64) hx hb dX12_round_100 rfl ?_
                refine lv_goto (tgt := 106) hx hb dX12_round_101 (by decide) ?_
                obtain ⟨rfl, rfl⟩ := Prod.mk.inj (Option.some.inj h)
                exact W.lret hx hb hr (R_end hB) hB.2.2.2.2 dX12_round_106
            · replace h := itp h c_18
              refine lv_aload_n hx hb dX12_round_82 rfl (lv_at hl 1 rfl) ?_
              refine R_get (v := .int (hI s_15 40 31)) hx hb ht ui_X12 hown hK hB (by decide) (cell_8 rfl) rfl 31 (by decide) (ht _ tw947) (fun _ h9 => h9) rfl dX12_round_83 ?_
              refine lv_i2l (v := (hI s_15 40 31).toInt64) hx hb dX12_round_86 rfl ?_
              refine lv_goto (tgt := 106) hx hb dX12_round_87 (by decide) ?_
              obtain ⟨rfl, rfl⟩ := Prod.mk.inj (Option.some.inj h)
              exact W.lret hx hb hr (R_end hB) hB.2.2.2.2 dX12_round_106
          · replace h := itp h c_17
            refine lv_aload_n hx hb dX12_round_67 rfl (lv_at hl 1 rfl) ?_
            refine lv_bipush (v := -5) hx hb dX12_round_68 (by decide) ?_
            replace h := b2_eq h; obtain ⟨r_20, s_21, hc_22, h⟩ := h
            refine R_call (rest := []) [.int r_20] (R_runV (n := 1) (As := [.int (-5 : Int32)]) ⟨hx, hb, hml, hown, ht⟩ (fun _ h9 => h9) hK hZ hA hB (c_X12_no l g P s_15 (-5 : Int32) H.size hc_22) (R_recv hK hB (by decide) (cell_8 rfl) rfl) tw1042 tw1039 tw1041 pw26 tw5 ⟨by decide, by decide, by decide⟩ rfl rfl ⟨Nat.le_of_ble_eq_true rfl, Nat.le_of_ble_eq_true rfl⟩ rfl hl.1 rfl (Nat.le_of_ble_eq_true rfl) dX12_round_70 ⟨Nat.zero_le _, Nat.zero_le _⟩) hB hA rfl (fun H locs hB => ?_)
            refine lv_i2l (v := r_20.toInt64) hx hb dX12_round_73 rfl ?_
            refine lv_goto (tgt := 106) hx hb dX12_round_74 (by decide) ?_
            obtain ⟨rfl, rfl⟩ := Prod.mk.inj (Option.some.inj h)
            exact W.lret hx hb hr (R_end hB) hB.2.2.2.2 dX12_round_106
        · replace h := itp h c_13
          refine lv_aload_n hx hb dX12_round_42 rfl (lv_at hl 0 rfl) ?_
          refine lv_bipush (v := -6) hx hb dX12_round_43 (by decide) ?_
          replace h := b2_eq h; obtain ⟨r_23, s_24, hc_25, h⟩ := h
          refine R_call (rest := []) [.int r_23] (R_runV (n := 1) (As := [.int (-6 : Int32)]) ⟨hx, hb, hml, hown, ht⟩ (fun _ h9 => h9) hK hZ hA hB (c_X12_no l g P s_11 (-6 : Int32) H.size hc_25) (R_recv hK hB (by decide) (cell_8 rfl) rfl) tw1042 tw1039 tw1041 pw26 tw5 ⟨by decide, by decide, by decide⟩ rfl rfl ⟨Nat.le_of_ble_eq_true rfl, Nat.le_of_ble_eq_true rfl⟩ rfl hl.1 rfl (Nat.le_of_ble_eq_true rfl) dX12_round_45 ⟨Nat.zero_le _, Nat.zero_le _⟩) hB hA rfl (fun H locs hB => ?_)
          refine lv_i2l (v := r_23.toInt64) hx hb dX12_round_48 rfl ?_
          obtain ⟨rfl, rfl⟩ := Prod.mk.inj (Option.some.inj h)
          exact W.lret hx hb hr (R_end hB) hB.2.2.2.2 dX12_round_49
      · replace h := itn h c_9
        exact hb_26 s_2 H locs ls h hB (lv_sub hl [0] rfl)
  · replace h := itp h c_4
    refine lv_aload_n hx hb dX12_round_8 rfl (lv_at hl 0 rfl) ?_
    refine lv_iconst (v := -1) hx hb dX12_round_9 (by decide) ?_
    replace h := b2_eq h; obtain ⟨r_26, s_27, hc_28, h⟩ := h
    refine R_call (rest := []) [.int r_26] (R_runV (n := 1) (As := [.int (-1 : Int32)]) ⟨hx, hb, hml, hown, ht⟩ (fun _ h9 => h9) hK hZ hA hB (c_X12_no l g P s_2 (-1 : Int32) H.size hc_28) (R_recv hK hB (by decide) (cell_8 rfl) rfl) tw1042 tw1039 tw1041 pw26 tw5 ⟨by decide, by decide, by decide⟩ rfl rfl ⟨Nat.le_of_ble_eq_true rfl, Nat.le_of_ble_eq_true rfl⟩ rfl hl.1 rfl (Nat.le_of_ble_eq_true rfl) dX12_round_10 ⟨Nat.zero_le _, Nat.zero_le _⟩) hB hA rfl (fun H locs hB => ?_)
    refine lv_i2l (v := r_26.toInt64) hx hb dX12_round_13 rfl ?_
    obtain ⟨rfl, rfl⟩ := Prod.mk.inj (Option.some.inj h)
    exact W.lret hx hb hr (R_end hB) hB.2.2.2.2 dX12_round_14
def f_X12_meet_b32 (σ1 : Hp) : Option (Int64 × Hp) := b2 (f_X12_no (-6 : Int32) σ1) (fun r_9 s_10 => some (r_9.toInt64, s_10))
def f_X12_meet_b158 (σ1 : Hp) : Option (Int64 × Hp) := b2 (f_X12_no (-5 : Int32) σ1) (fun r_18 s_19 => some (r_18.toInt64, s_19))
def f_X12_meet_t114 (x1 : Int32) (x6 : Int32) (x7 : Int64) (x9 : Int32) (x10 : Int32) (σ1 : Hp) : Option ((Int32 × Hp) ⊕ ((Int64 × Int32 × Hp) ⊕ (Int64 × Hp))) := if x6 ≤ x10 then ex (b2 (f_X12_nextOf x1 x7 σ1) (fun r_23 s_24 => some (.inl (r_23, (x9 + 1), s_24)))) else ck (inb x10 201 = true) (if (lg_cmp (hJ σ1 70 x10.toNatClampNeg) x7) = 0 then ex (ex (some (x7, σ1))) else some (.inl ((x10 + 1), σ1)))
def f_X12_meet_s114 (x1 : Int32) (x6 : Int32) (x7 : Int64) (x9 : Int32) (v : (Int32 × Hp)) : Option ((Int32 × Hp) ⊕ ((Int64 × Int32 × Hp) ⊕ (Int64 × Hp))) := f_X12_meet_t114 x1 x6 x7 x9 v.1 v.2
def f_X12_meet_t94 (x1 : Int32) (x6 : Int32) (x7 : Int64) (x9 : Int32) (σ1 : Hp) : Option ((Int64 × Int32 × Hp) ⊕ (Int64 × Hp)) := if (200 : Int32) < x9 then ex (f_X12_meet_b158 σ1) else if (lg_cmp x7 (-1 : Int64)) = 0 then ex (f_X12_meet_b158 σ1) else iter (f_X12_meet_s114 x1 x6 x7 x9) fuel ((0 : Int32), σ1)
def f_X12_meet_s94 (x1 : Int32) (x6 : Int32) (v : (Int64 × Int32 × Hp)) : Option ((Int64 × Int32 × Hp) ⊕ (Int64 × Hp)) := f_X12_meet_t94 x1 x6 v.1 v.2.1 v.2.2
def f_X12_meet_b88 (x1 : Int32) (x2 : Int64) (x6 : Int32) (σ1 : Hp) : Option (Int64 × Hp) := iter (f_X12_meet_s94 x1 x6) fuel (x2, (0 : Int32), σ1)
def f_X12_meet_t47 (x1 : Int32) (x2 : Int64) (x6 : Int32) (x7 : Int64) (σ1 : Hp) : Option ((Int32 × Int64 × Hp) ⊕ (Int64 × Hp)) := if (lg_cmp x7 (-1 : Int64)) = 0 then ex (f_X12_meet_b88 x1 x2 x6 σ1) else if (200 : Int32) < x6 then ex (f_X12_meet_b88 x1 x2 x6 σ1) else ck (inb x6 201 = true) (b2 (f_X12_nextOf x1 x7 (sJ σ1 70 x6.toNatClampNeg x7)) (fun r_30 s_31 => some (.inl ((x6 + 1), r_30, s_31))))
def f_X12_meet_s47 (x1 : Int32) (x2 : Int64) (v : (Int32 × Int64 × Hp)) : Option ((Int32 × Int64 × Hp) ⊕ (Int64 × Hp)) := f_X12_meet_t47 x1 x2 v.1 v.2.1 v.2.2
def f_X12_meet (a1 : Int32) (a2 : Int64) (a4 : Int64) (σ : Hp) : Option (Int64 × Hp) := b2 (f_X12_isLaw a1 σ) (fun r_1 s_2 => if r_1 = 0 then b2 (f_X12_no (-1 : Int32) s_2) (fun r_33 s_34 => some (r_33.toInt64, s_34)) else b2 (f_X12_isNumber a2 s_2) (fun r_5 s_6 => if r_5 = 0 then f_X12_meet_b32 s_6 else b2 (f_X12_isNumber a4 s_6) (fun r_12 s_13 => if r_12 = 0 then f_X12_meet_b32 s_13 else iter (f_X12_meet_s47 a1 a2) fuel ((0 : Int32), a4, s_13))))
set_option maxHeartbeats 4000000 in
set_option maxRecDepth 100000 in
theorem c_X12_meet (l : Launch) (g : tG) (P : Nat → Nat) (σ : Hp) (a1 : Int32) (a2 : Int64) (a4 : Int64) (sz : Nat) {r : Int64} {τ : Hp} (h : f_X12_meet a1 a2 a4 σ = some (r, τ)) : Met l yX12_meet (Cond.code yX12_meet cX12_meet 11 (some .long) :: tblG) ({ frames := 3, cells := 0, slots := 0, locals := 82 }) (va_Pc [.ref (gL g 40), .int a1, .long a2, .long a4] (tPre g P σ sz)) (tQ (some (.long r)) (tPost g P τ (va_A (wC g P σ) sz)) (va_A (wC g P σ) sz)) 0 0 (va_A (wC g P σ) sz) := by
  refine T_start (B := fun A => tPost g P τ A) (by decide) (Nat.le_of_ble_eq_true rfl) ?_
  intro p e s m args below meth c ls0 A hx hb hml hr hown hlocks ht hnm hK hZ hA hB0 hl0
  have hb_32 : ∀ (σ1 : Hp) (H : Heap) (locs : List Loc) (ls : Array Slot), f_X12_meet_b32 σ1 = some (r, τ) → tB g P σ1 A s.heap H locs → lv_has ls 11 [(0, .ref (gL g 40))] → WQ p l e { frames := 3, cells := 0, slots := 0, locals := 82 } s m args below meth c g P A (some (.long r)) τ H locs (F0 m 32 ls []) := by
    intro σ1 H locs ls h hB hl
    unfold f_X12_meet_b32 at h
    refine lv_aload_n hx hb dX12_meet_32 rfl (lv_at hl 0 rfl) ?_
    refine lv_bipush (v := -6) hx hb dX12_meet_33 (by decide) ?_
    replace h := b2_eq h; obtain ⟨r_9, s_10, hc_11, h⟩ := h
    refine R_call (rest := []) [.int r_9] (R_runV (n := 1) (As := [.int (-6 : Int32)]) ⟨hx, hb, hml, hown, ht⟩ (fun _ h9 => h9) hK hZ hA hB (c_X12_no l g P σ1 (-6 : Int32) H.size hc_11) (R_recv hK hB (by decide) (cell_8 rfl) rfl) tw1042 tw1039 tw1041 pw26 tw5 ⟨by decide, by decide, by decide⟩ rfl rfl ⟨Nat.le_of_ble_eq_true rfl, Nat.le_of_ble_eq_true rfl⟩ rfl hl.1 rfl (Nat.le_of_ble_eq_true rfl) dX12_meet_35 ⟨Nat.zero_le _, Nat.zero_le _⟩) hB hA rfl (fun H locs hB => ?_)
    refine lv_i2l (v := r_9.toInt64) hx hb dX12_meet_38 rfl ?_
    obtain ⟨rfl, rfl⟩ := Prod.mk.inj (Option.some.inj h)
    exact W.lret hx hb hr (R_end hB) hB.2.2.2.2 dX12_meet_39
  have hb_158 : ∀ (σ1 : Hp) (H : Heap) (locs : List Loc) (ls : Array Slot), f_X12_meet_b158 σ1 = some (r, τ) → tB g P σ1 A s.heap H locs → lv_has ls 11 [(0, .ref (gL g 40))] → WQ p l e { frames := 3, cells := 0, slots := 0, locals := 82 } s m args below meth c g P A (some (.long r)) τ H locs (F0 m 158 ls []) := by
    intro σ1 H locs ls h hB hl
    unfold f_X12_meet_b158 at h
    refine lv_aload_n hx hb dX12_meet_158 rfl (lv_at hl 0 rfl) ?_
    refine lv_bipush (v := -5) hx hb dX12_meet_159 (by decide) ?_
    replace h := b2_eq h; obtain ⟨r_18, s_19, hc_20, h⟩ := h
    refine R_call (rest := []) [.int r_18] (R_runV (n := 1) (As := [.int (-5 : Int32)]) ⟨hx, hb, hml, hown, ht⟩ (fun _ h9 => h9) hK hZ hA hB (c_X12_no l g P σ1 (-5 : Int32) H.size hc_20) (R_recv hK hB (by decide) (cell_8 rfl) rfl) tw1042 tw1039 tw1041 pw26 tw5 ⟨by decide, by decide, by decide⟩ rfl rfl ⟨Nat.le_of_ble_eq_true rfl, Nat.le_of_ble_eq_true rfl⟩ rfl hl.1 rfl (Nat.le_of_ble_eq_true rfl) dX12_meet_161 ⟨Nat.zero_le _, Nat.zero_le _⟩) hB hA rfl (fun H locs hB => ?_)
    refine lv_i2l (v := r_18.toInt64) hx hb dX12_meet_164 rfl ?_
    obtain ⟨rfl, rfl⟩ := Prod.mk.inj (Option.some.inj h)
    exact W.lret hx hb hr (R_end hB) hB.2.2.2.2 dX12_meet_165
  have hL_94 : ∀ (x1 : Int32) (x6 : Int32) (n : Nat) (x7 : Int64) (x9 : Int32) (σ1 : Hp) (H : Heap) (locs : List Loc) (ls : Array Slot), iter (f_X12_meet_s94 x1 x6) n (x7, x9, σ1) = some (r, τ) → tB g P σ1 A s.heap H locs → lv_has ls 11 [(0, .ref (gL g 40)), (1, .int x1), (6, .int x6), (7, .long x7), (9, .int x9)] → WQ p l e { frames := 3, cells := 0, slots := 0, locals := 82 } s m args below meth c g P A (some (.long r)) τ H locs (F0 m 94 ls []) := by
    intro x1 x6 n
    induction n with
    | zero =>
      intro x7 x9 σ1 H locs ls h hB hl
      exact (iter_0 h).elim
    | succ n ih1 =>
      intro x7 x9 σ1 H locs ls h hB hl
      replace h := iter_eq h; obtain ⟨z1, hh1, hx1⟩ := h
      have hL_114 : ∀ (x7 : Int64) (x9 : Int32) (n : Nat) (x10 : Int32) (σ1 : Hp) (H : Heap) (locs : List Loc) (ls : Array Slot), iter (f_X12_meet_s114 x1 x6 x7 x9) n (x10, σ1) = some z1 → tB g P σ1 A s.heap H locs → lv_has ls 11 [(0, .ref (gL g 40)), (1, .int x1), (6, .int x6), (7, .long x7), (9, .int x9), (10, .int x10)] → WQ p l e { frames := 3, cells := 0, slots := 0, locals := 82 } s m args below meth c g P A (some (.long r)) τ H locs (F0 m 114 ls []) := by
        intro x7 x9 n
        induction n with
        | zero =>
          intro x10 σ1 H locs ls h hB hl
          exact (iter_0 h).elim
        | succ n ih2 =>
          intro x10 σ1 H locs ls h hB hl
          replace h := iter_eq h; obtain ⟨z2, hh2, hx2⟩ := h
          have h : f_X12_meet_t114 x1 x6 x7 x9 x10 σ1 = some z2 := hh2
          clear hh2
          unfold f_X12_meet_t114 at h
          refine lv_iload hx hb dX12_meet_114 (lv_at hl 5 rfl) ?_
          refine lv_iload hx hb dX12_meet_116 (lv_at hl 2 rfl) ?_
          refine lv_icmp_ge (tgt := 143) hx hb dX12_meet_118 (by decide) (fun c_22 => ?_) (fun c_22 => ?_)
          · replace h := itp h c_22
            replace h := ex_eq h; obtain ⟨b2, h, hz2⟩ := h
            subst hz2
            have hz2 := (itk_inr hx2).symm
            subst hz2
            refine lv_aload_n hx hb dX12_meet_143 rfl (lv_at hl 0 rfl) ?_
            refine lv_iload_n hx hb dX12_meet_144 rfl (lv_at hl 1 rfl) ?_
            refine lv_lload hx hb dX12_meet_145 (lv_at hl 3 rfl) ?_
            replace h := b2_eq h; obtain ⟨r_23, s_24, hc_25, h⟩ := h
            refine R_call (rest := []) [.long r_23] (R_runV (n := 2) (As := [.int x1, .long x7]) ⟨hx, hb, hml, hown, ht⟩ (fun _ h9 => h9) hK hZ hA hB (c_X12_nextOf l g P σ1 x1 x7 H.size hc_25) (R_recv hK hB (by decide) (cell_8 rfl) rfl) tw1075 tw1072 tw1074 pw28 tw5 ⟨by decide, by decide, by decide⟩ rfl rfl ⟨Nat.le_of_ble_eq_true rfl, Nat.le_of_ble_eq_true rfl⟩ rfl hl.1 rfl (Nat.le_of_ble_eq_true rfl) dX12_meet_147 ⟨Nat.zero_le _, Nat.zero_le _⟩) hB hA rfl (fun H locs hB => ?_)
            refine lv_lstore (lv' := [(7, .long r_23), (0, .ref (gL g 40)), (1, .int x1), (6, .int x6), (9, .int x9), (10, .int x10)]) hx hb dX12_meet_150 hl (by decide) rfl (fun ls hl => ?_)
            refine lv_iinc (v := x9 + 1) (lv' := [(9, .int (x9 + 1)), (7, .long r_23), (0, .ref (gL g 40)), (1, .int x1), (6, .int x6), (10, .int x10)]) hx hb dX12_meet_152 hl (k := 4) rfl rfl (by decide) rfl (fun ls hl => ?_)
            refine lv_goto (tgt := 94) hx hb dX12_meet_155 (by decide) ?_
            obtain rfl := Option.some.inj h
            exact ih1 r_23 (x9 + 1) s_24 H locs ls hx1 hB (lv_sub hl [2, 3, 4, 1, 0] rfl)
          · replace h := itn h c_22
            refine lv_aload_n hx hb dX12_meet_121 rfl (lv_at hl 0 rfl) ?_
            refine R_get (v := .ref (gL g 70)) hx hb ht ui_X12 hown hK hB (by decide) (cell_8 rfl) rfl 30 (by decide) (ht _ tw946) (fun _ h9 => h9) rfl dX12_meet_122 ?_
            refine lv_iload hx hb dX12_meet_125 (lv_at hl 5 rfl) ?_
            replace h := ck_eq h; obtain ⟨q_26, h⟩ := h
            refine R_lald hx hb hK hB rfl (inb_eq q_26) dX12_meet_127 ?_
            refine lv_lload hx hb dX12_meet_128 (lv_at hl 3 rfl) ?_
            refine W.lcmp hx hb dX12_meet_130 ?_
            refine lv_if_ne (tgt := 137) hx hb dX12_meet_131 (by decide) (fun c_27 => ?_) (fun c_27 => ?_)
            · replace h := itn h c_27
              refine lv_iinc (v := x10 + 1) (lv' := [(10, .int (x10 + 1)), (0, .ref (gL g 40)), (1, .int x1), (6, .int x6), (7, .long x7), (9, .int x9)]) hx hb dX12_meet_137 hl (k := 5) rfl rfl (by decide) rfl (fun ls hl => ?_)
              refine lv_goto (tgt := 114) hx hb dX12_meet_140 (by decide) ?_
              obtain rfl := Option.some.inj h
              exact ih2 (x10 + 1) σ1 H locs ls hx2 hB (lv_sub hl [1, 2, 3, 4, 5, 0] rfl)
            · replace h := itp h c_27
              replace h := ex_eq h; obtain ⟨b2, h, hz2⟩ := h
              subst hz2
              have hz2 := (itk_inr hx2).symm
              subst hz2
              replace h := ex_eq h; obtain ⟨b1, h, hz1⟩ := h
              subst hz1
              have hz1 := (itk_inr hx1).symm
              subst hz1
              refine lv_lload hx hb dX12_meet_134 (lv_at hl 3 rfl) ?_
              obtain ⟨rfl, rfl⟩ := Prod.mk.inj (Option.some.inj h)
              exact W.lret hx hb hr (R_end hB) hB.2.2.2.2 dX12_meet_136
      have h : f_X12_meet_t94 x1 x6 x7 x9 σ1 = some z1 := hh1
      clear hh1
      unfold f_X12_meet_t94 at h
      refine lv_iload hx hb dX12_meet_94 (lv_at hl 4 rfl) ?_
      refine lv_sipush (v := 200) hx hb dX12_meet_96 (by decide) ?_
      refine lv_icmp_gt (tgt := 158) hx hb dX12_meet_99 (by decide) (fun c_17 => ?_) (fun c_17 => ?_)
      · replace h := itp h c_17
        replace h := ex_eq h; obtain ⟨b1, h, hz1⟩ := h
        subst hz1
        have hz1 := (itk_inr hx1).symm
        subst hz1
        exact hb_158 σ1 H locs ls h hB (lv_sub hl [0] rfl)
      · replace h := itn h c_17
        refine lv_lload hx hb dX12_meet_102 (lv_at hl 3 rfl) ?_
        refine lv_ldc2 (v := -1) hx hb hown (ht _ tw1089) dX12_meet_104 ?_
        refine W.lcmp hx hb dX12_meet_107 ?_
        refine lv_if_eq (tgt := 158) hx hb dX12_meet_108 (by decide) (fun c_21 => ?_) (fun c_21 => ?_)
        · replace h := itp h c_21
          replace h := ex_eq h; obtain ⟨b1, h, hz1⟩ := h
          subst hz1
          have hz1 := (itk_inr hx1).symm
          subst hz1
          exact hb_158 σ1 H locs ls h hB (lv_sub hl [0] rfl)
        · replace h := itn h c_21
          refine lv_iconst (v := 0) hx hb dX12_meet_111 (by decide) ?_
          refine lv_istore (lv' := [(10, .int (0 : Int32)), (0, .ref (gL g 40)), (1, .int x1), (6, .int x6), (7, .long x7), (9, .int x9)]) hx hb dX12_meet_112 hl (by decide) rfl (fun ls hl => ?_)
          exact hL_114 x7 x9 fuel (0 : Int32) σ1 H locs ls h hB (lv_sub hl [1, 2, 3, 4, 5, 0] rfl)
  have hb_88 : ∀ (x1 : Int32) (x2 : Int64) (x6 : Int32) (σ1 : Hp) (H : Heap) (locs : List Loc) (ls : Array Slot), f_X12_meet_b88 x1 x2 x6 σ1 = some (r, τ) → tB g P σ1 A s.heap H locs → lv_has ls 11 [(0, .ref (gL g 40)), (1, .int x1), (2, .long x2), (6, .int x6)] → WQ p l e { frames := 3, cells := 0, slots := 0, locals := 82 } s m args below meth c g P A (some (.long r)) τ H locs (F0 m 88 ls []) := by
    intro x1 x2 x6 σ1 H locs ls h hB hl
    unfold f_X12_meet_b88 at h
    refine lv_lload_n hx hb dX12_meet_88 rfl (lv_at hl 2 rfl) ?_
    refine lv_lstore (lv' := [(7, .long x2), (0, .ref (gL g 40)), (1, .int x1), (2, .long x2), (6, .int x6)]) hx hb dX12_meet_89 hl (by decide) rfl (fun ls hl => ?_)
    refine lv_iconst (v := 0) hx hb dX12_meet_91 (by decide) ?_
    refine lv_istore (lv' := [(9, .int (0 : Int32)), (7, .long x2), (0, .ref (gL g 40)), (1, .int x1), (2, .long x2), (6, .int x6)]) hx hb dX12_meet_92 hl (by decide) rfl (fun ls hl => ?_)
    exact hL_94 x1 x6 fuel x2 (0 : Int32) σ1 H locs ls h hB (lv_sub hl [2, 3, 5, 1, 0] rfl)
  have hL_47 : ∀ (x1 : Int32) (x2 : Int64) (n : Nat) (x6 : Int32) (x7 : Int64) (σ1 : Hp) (H : Heap) (locs : List Loc) (ls : Array Slot), iter (f_X12_meet_s47 x1 x2) n (x6, x7, σ1) = some (r, τ) → tB g P σ1 A s.heap H locs → lv_has ls 11 [(0, .ref (gL g 40)), (1, .int x1), (2, .long x2), (6, .int x6), (7, .long x7)] → WQ p l e { frames := 3, cells := 0, slots := 0, locals := 82 } s m args below meth c g P A (some (.long r)) τ H locs (F0 m 47 ls []) := by
    intro x1 x2 n
    induction n with
    | zero =>
      intro x6 x7 σ1 H locs ls h hB hl
      exact (iter_0 h).elim
    | succ n ih1 =>
      intro x6 x7 σ1 H locs ls h hB hl
      replace h := iter_eq h; obtain ⟨z1, hh1, hx1⟩ := h
      have h : f_X12_meet_t47 x1 x2 x6 x7 σ1 = some z1 := hh1
      clear hh1
      unfold f_X12_meet_t47 at h
      refine lv_lload hx hb dX12_meet_47 (lv_at hl 4 rfl) ?_
      refine lv_ldc2 (v := -1) hx hb hown (ht _ tw1089) dX12_meet_49 ?_
      refine W.lcmp hx hb dX12_meet_52 ?_
      refine lv_if_eq (tgt := 88) hx hb dX12_meet_53 (by decide) (fun c_16 => ?_) (fun c_16 => ?_)
      · replace h := itp h c_16
        replace h := ex_eq h; obtain ⟨b1, h, hz1⟩ := h
        subst hz1
        have hz1 := (itk_inr hx1).symm
        subst hz1
        exact hb_88 x1 x2 x6 σ1 H locs ls h hB (lv_sub hl [0, 1, 2, 3] rfl)
      · replace h := itn h c_16
        refine lv_iload hx hb dX12_meet_56 (lv_at hl 3 rfl) ?_
        refine lv_sipush (v := 200) hx hb dX12_meet_58 (by decide) ?_
        refine lv_icmp_gt (tgt := 88) hx hb dX12_meet_61 (by decide) (fun c_28 => ?_) (fun c_28 => ?_)
        · replace h := itp h c_28
          replace h := ex_eq h; obtain ⟨b1, h, hz1⟩ := h
          subst hz1
          have hz1 := (itk_inr hx1).symm
          subst hz1
          exact hb_88 x1 x2 x6 σ1 H locs ls h hB (lv_sub hl [0, 1, 2, 3] rfl)
        · replace h := itn h c_28
          refine lv_aload_n hx hb dX12_meet_64 rfl (lv_at hl 0 rfl) ?_
          refine R_get (v := .ref (gL g 70)) hx hb ht ui_X12 hown hK hB (by decide) (cell_8 rfl) rfl 30 (by decide) (ht _ tw946) (fun _ h9 => h9) rfl dX12_meet_65 ?_
          refine lv_iload hx hb dX12_meet_68 (lv_at hl 3 rfl) ?_
          refine lv_lload hx hb dX12_meet_70 (lv_at hl 4 rfl) ?_
          replace h := ck_eq h; obtain ⟨q_29, h⟩ := h
          refine R_last hx hb hK hB rfl (inb_eq q_29) dX12_meet_72 (fun H locs hB => ?_)
          refine lv_iinc (v := x6 + 1) (lv' := [(6, .int (x6 + 1)), (0, .ref (gL g 40)), (1, .int x1), (2, .long x2), (7, .long x7)]) hx hb dX12_meet_73 hl (k := 3) rfl rfl (by decide) rfl (fun ls hl => ?_)
          refine lv_aload_n hx hb dX12_meet_76 rfl (lv_at hl 1 rfl) ?_
          refine lv_iload_n hx hb dX12_meet_77 rfl (lv_at hl 2 rfl) ?_
          refine lv_lload hx hb dX12_meet_78 (lv_at hl 4 rfl) ?_
          replace h := b2_eq h; obtain ⟨r_30, s_31, hc_32, h⟩ := h
          refine R_call (rest := []) [.long r_30] (R_runV (n := 2) (As := [.int x1, .long x7]) ⟨hx, hb, hml, hown, ht⟩ (fun _ h9 => h9) hK hZ hA hB (c_X12_nextOf l g P (sJ σ1 70 x6.toNatClampNeg x7) x1 x7 H.size hc_32) (R_recv hK hB (by decide) (cell_8 rfl) rfl) tw1075 tw1072 tw1074 pw28 tw5 ⟨by decide, by decide, by decide⟩ rfl rfl ⟨Nat.le_of_ble_eq_true rfl, Nat.le_of_ble_eq_true rfl⟩ rfl hl.1 rfl (Nat.le_of_ble_eq_true rfl) dX12_meet_80 ⟨Nat.zero_le _, Nat.zero_le _⟩) hB hA rfl (fun H locs hB => ?_)
          refine lv_lstore (lv' := [(7, .long r_30), (6, .int (x6 + 1)), (0, .ref (gL g 40)), (1, .int x1), (2, .long x2)]) hx hb dX12_meet_83 hl (by decide) rfl (fun ls hl => ?_)
          refine lv_goto (tgt := 47) hx hb dX12_meet_85 (by decide) ?_
          obtain rfl := Option.some.inj h
          exact ih1 (x6 + 1) r_30 s_31 H locs ls hx1 hB (lv_sub hl [2, 3, 4, 1, 0] rfl)
  suffices hmain : ∀ (H : Heap) (locs : List Loc) (ls : Array Slot), tB g P σ A s.heap H locs → lv_has ls 11 [(0, .ref (gL g 40)), (1, .int a1), (2, .long a2), (4, .long a4)] → WQ p l e { frames := 3, cells := 0, slots := 0, locals := 82 } s m args below meth c g P A (some (.long r)) τ H locs (F0 m 0 ls []) from hmain _ _ ls0 hB0 hl0
  intro H locs ls hB hl
  unfold f_X12_meet at h
  refine lv_aload_n hx hb dX12_meet_0 rfl (lv_at hl 0 rfl) ?_
  refine lv_iload_n hx hb dX12_meet_1 rfl (lv_at hl 1 rfl) ?_
  replace h := b2_eq h; obtain ⟨r_1, s_2, hc_3, h⟩ := h
  refine R_call (rest := []) [.int r_1] (R_runV (n := 1) (As := [.int a1]) ⟨hx, hb, hml, hown, ht⟩ (fun _ h9 => h9) hK hZ hA hB (c_X12_isLaw l g P σ a1 H.size hc_3) (R_recv hK hB (by decide) (cell_8 rfl) rfl) tw1062 tw1059 tw1061 pw27 tw5 ⟨by decide, by decide, by decide⟩ rfl rfl ⟨Nat.le_of_ble_eq_true rfl, Nat.le_of_ble_eq_true rfl⟩ rfl hl.1 rfl (Nat.le_of_ble_eq_true rfl) dX12_meet_2 ⟨Nat.zero_le _, Nat.zero_le _⟩) hB hA rfl (fun H locs hB => ?_)
  refine lv_if_ne (tgt := 15) hx hb dX12_meet_5 (by decide) (fun c_4 => ?_) (fun c_4 => ?_)
  · replace h := itn h c_4
    refine lv_aload_n hx hb dX12_meet_15 rfl (lv_at hl 0 rfl) ?_
    refine lv_lload_n hx hb dX12_meet_16 rfl (lv_at hl 2 rfl) ?_
    replace h := b2_eq h; obtain ⟨r_5, s_6, hc_7, h⟩ := h
    refine R_call (rest := []) [.int r_5] (R_runV (n := 1) (As := [.long a2]) ⟨hx, hb, hml, hown, ht⟩ (fun _ h9 => h9) hK hZ hA hB (c_X12_isNumber l g P s_2 a2 H.size hc_7) (R_recv hK hB (by decide) (cell_8 rfl) rfl) tw1177 tw1174 tw1176 pw45 tw5 ⟨by decide, by decide, by decide⟩ rfl rfl ⟨Nat.le_of_ble_eq_true rfl, Nat.le_of_ble_eq_true rfl⟩ rfl hl.1 rfl (Nat.le_of_ble_eq_true rfl) dX12_meet_17 ⟨Nat.zero_le _, Nat.zero_le _⟩) hB hA rfl (fun H locs hB => ?_)
    refine lv_if_eq (tgt := 32) hx hb dX12_meet_20 (by decide) (fun c_8 => ?_) (fun c_8 => ?_)
    · replace h := itp h c_8
      exact hb_32 s_6 H locs ls h hB (lv_sub hl [0] rfl)
    · replace h := itn h c_8
      refine lv_aload_n hx hb dX12_meet_23 rfl (lv_at hl 0 rfl) ?_
      refine lv_lload hx hb dX12_meet_24 (lv_at hl 3 rfl) ?_
      replace h := b2_eq h; obtain ⟨r_12, s_13, hc_14, h⟩ := h
      refine R_call (rest := []) [.int r_12] (R_runV (n := 1) (As := [.long a4]) ⟨hx, hb, hml, hown, ht⟩ (fun _ h9 => h9) hK hZ hA hB (c_X12_isNumber l g P s_6 a4 H.size hc_14) (R_recv hK hB (by decide) (cell_8 rfl) rfl) tw1177 tw1174 tw1176 pw45 tw5 ⟨by decide, by decide, by decide⟩ rfl rfl ⟨Nat.le_of_ble_eq_true rfl, Nat.le_of_ble_eq_true rfl⟩ rfl hl.1 rfl (Nat.le_of_ble_eq_true rfl) dX12_meet_26 ⟨Nat.zero_le _, Nat.zero_le _⟩) hB hA rfl (fun H locs hB => ?_)
      refine lv_if_ne (tgt := 40) hx hb dX12_meet_29 (by decide) (fun c_15 => ?_) (fun c_15 => ?_)
      · replace h := itn h c_15
        refine lv_iconst (v := 0) hx hb dX12_meet_40 (by decide) ?_
        refine lv_istore (lv' := [(6, .int (0 : Int32)), (0, .ref (gL g 40)), (1, .int a1), (2, .long a2), (4, .long a4)]) hx hb dX12_meet_41 hl (by decide) rfl (fun ls hl => ?_)
        refine lv_lload hx hb dX12_meet_43 (lv_at hl 4 rfl) ?_
        refine lv_lstore (lv' := [(7, .long a4), (6, .int (0 : Int32)), (0, .ref (gL g 40)), (1, .int a1), (2, .long a2), (4, .long a4)]) hx hb dX12_meet_45 hl (by decide) rfl (fun ls hl => ?_)
        exact hL_47 a1 a2 fuel (0 : Int32) a4 s_13 H locs ls h hB (lv_sub hl [2, 3, 4, 1, 0] rfl)
      · replace h := itp h c_15
        exact hb_32 s_13 H locs ls h hB (lv_sub hl [0] rfl)
  · replace h := itp h c_4
    refine lv_aload_n hx hb dX12_meet_8 rfl (lv_at hl 0 rfl) ?_
    refine lv_iconst (v := -1) hx hb dX12_meet_9 (by decide) ?_
    replace h := b2_eq h; obtain ⟨r_33, s_34, hc_35, h⟩ := h
    refine R_call (rest := []) [.int r_33] (R_runV (n := 1) (As := [.int (-1 : Int32)]) ⟨hx, hb, hml, hown, ht⟩ (fun _ h9 => h9) hK hZ hA hB (c_X12_no l g P s_2 (-1 : Int32) H.size hc_35) (R_recv hK hB (by decide) (cell_8 rfl) rfl) tw1042 tw1039 tw1041 pw26 tw5 ⟨by decide, by decide, by decide⟩ rfl rfl ⟨Nat.le_of_ble_eq_true rfl, Nat.le_of_ble_eq_true rfl⟩ rfl hl.1 rfl (Nat.le_of_ble_eq_true rfl) dX12_meet_10 ⟨Nat.zero_le _, Nat.zero_le _⟩) hB hA rfl (fun H locs hB => ?_)
    refine lv_i2l (v := r_33.toInt64) hx hb dX12_meet_13 rfl ?_
    obtain ⟨rfl, rfl⟩ := Prod.mk.inj (Option.some.inj h)
    exact W.lret hx hb hr (R_end hB) hB.2.2.2.2 dX12_meet_14
def f_X12_source_b85 (x1 : Int32) (x2 : Int64) (x4 : Int32) (x5 : Int32) (x6 : Int32) (σ1 : Hp) : Option ((Int32 × Int32 × Hp) ⊕ (Int32 × Hp)) := some (.inl (x5, (x6 + 1), σ1))
def f_X12_source_t48 (x1 : Int32) (x2 : Int64) (x4 : Int32) (x5 : Int32) (x6 : Int32) (σ1 : Hp) : Option ((Int32 × Int32 × Hp) ⊕ (Int32 × Hp)) := if (10000 : Int32) ≤ x6 then ex (if x4 = (-1 : Int32) then some (x5, σ1) else b2 (f_X12_no (-5 : Int32) σ1) (fun r_12 s_13 => some (r_12, s_13))) else b2 (f_X12_nextOf x1 x6.toInt64 σ1) (fun r_15 s_16 => if (lg_cmp r_15 x2) = 0 then if x5 = x4 then ex (some (x6, s_16)) else f_X12_source_b85 x1 x2 x4 (x5 + 1) x6 s_16 else f_X12_source_b85 x1 x2 x4 x5 x6 s_16)
def f_X12_source_s48 (x1 : Int32) (x2 : Int64) (x4 : Int32) (v : (Int32 × Int32 × Hp)) : Option ((Int32 × Int32 × Hp) ⊕ (Int32 × Hp)) := f_X12_source_t48 x1 x2 x4 v.1 v.2.1 v.2.2
def f_X12_source (a1 : Int32) (a2 : Int64) (a4 : Int32) (σ : Hp) : Option (Int32 × Hp) := b2 (f_X12_isLaw a1 σ) (fun r_1 s_2 => if r_1 = 0 then b2 (f_X12_no (-1 : Int32) s_2) (fun r_26 s_27 => some (r_26, s_27)) else if (-1 : Int32) ≤ a4 then b2 (f_X12_isNumber a2 s_2) (fun r_6 s_7 => if r_6 = 0 then b2 (f_X12_no (-6 : Int32) s_7) (fun r_20 s_21 => some (r_20, s_21)) else iter (f_X12_source_s48 a1 a2 a4) fuel ((0 : Int32), (0 : Int32), s_7)) else b2 (f_X12_no (-5 : Int32) s_2) (fun r_23 s_24 => some (r_23, s_24)))
set_option maxHeartbeats 4000000 in
set_option maxRecDepth 100000 in
theorem c_X12_source (l : Launch) (g : tG) (P : Nat → Nat) (σ : Hp) (a1 : Int32) (a2 : Int64) (a4 : Int32) (sz : Nat) {r : Int32} {τ : Hp} (h : f_X12_source a1 a2 a4 σ = some (r, τ)) : Met l yX12_source (Cond.code yX12_source cX12_source 7 (some .int) :: tblG) ({ frames := 3, cells := 0, slots := 0, locals := 82 }) (va_Pc [.ref (gL g 40), .int a1, .long a2, .int a4] (tPre g P σ sz)) (tQ (some (.int r)) (tPost g P τ (va_A (wC g P σ) sz)) (va_A (wC g P σ) sz)) 0 0 (va_A (wC g P σ) sz) := by
  refine T_start (B := fun A => tPost g P τ A) (by decide) (Nat.le_of_ble_eq_true rfl) ?_
  intro p e s m args below meth c ls0 A hx hb hml hr hown hlocks ht hnm hK hZ hA hB0 hl0
  have hL_48 : ∀ (x1 : Int32) (x2 : Int64) (x4 : Int32) (n : Nat) (x5 : Int32) (x6 : Int32) (σ1 : Hp) (H : Heap) (locs : List Loc) (ls : Array Slot), iter (f_X12_source_s48 x1 x2 x4) n (x5, x6, σ1) = some (r, τ) → tB g P σ1 A s.heap H locs → lv_has ls 7 [(0, .ref (gL g 40)), (1, .int x1), (2, .long x2), (4, .int x4), (5, .int x5), (6, .int x6)] → WQ p l e { frames := 3, cells := 0, slots := 0, locals := 82 } s m args below meth c g P A (some (.int r)) τ H locs (F0 m 48 ls []) := by
    intro x1 x2 x4 n
    induction n with
    | zero =>
      intro x5 x6 σ1 H locs ls h hB hl
      exact (iter_0 h).elim
    | succ n ih1 =>
      intro x5 x6 σ1 H locs ls h hB hl
      replace h := iter_eq h; obtain ⟨z1, hh1, hx1⟩ := h
      have hb_85 : ∀ (x5 : Int32) (x6 : Int32) (σ1 : Hp) (H : Heap) (locs : List Loc) (ls : Array Slot), f_X12_source_b85 x1 x2 x4 x5 x6 σ1 = some z1 → tB g P σ1 A s.heap H locs → lv_has ls 7 [(0, .ref (gL g 40)), (1, .int x1), (2, .long x2), (4, .int x4), (5, .int x5), (6, .int x6)] → WQ p l e { frames := 3, cells := 0, slots := 0, locals := 82 } s m args below meth c g P A (some (.int r)) τ H locs (F0 m 85 ls []) := by
        intro x5 x6 σ1 H locs ls h hB hl
        unfold f_X12_source_b85 at h
        refine lv_iinc (v := x6 + 1) (lv' := [(6, .int (x6 + 1)), (0, .ref (gL g 40)), (1, .int x1), (2, .long x2), (4, .int x4), (5, .int x5)]) hx hb dX12_source_85 hl (k := 5) rfl rfl (by decide) rfl (fun ls hl => ?_)
        refine lv_goto (tgt := 48) hx hb dX12_source_88 (by decide) ?_
        obtain rfl := Option.some.inj h
        exact ih1 x5 (x6 + 1) σ1 H locs ls hx1 hB (lv_sub hl [1, 2, 3, 4, 5, 0] rfl)
      have h : f_X12_source_t48 x1 x2 x4 x5 x6 σ1 = some z1 := hh1
      clear hh1
      unfold f_X12_source_t48 at h
      refine lv_iload hx hb dX12_source_48 (lv_at hl 5 rfl) ?_
      refine lv_sipush (v := 10000) hx hb dX12_source_50 (by decide) ?_
      refine lv_icmp_ge (tgt := 91) hx hb dX12_source_53 (by decide) (fun c_10 => ?_) (fun c_10 => ?_)
      · replace h := itp h c_10
        replace h := ex_eq h; obtain ⟨b1, h, hz1⟩ := h
        subst hz1
        have hz1 := (itk_inr hx1).symm
        subst hz1
        refine lv_iload hx hb dX12_source_91 (lv_at hl 3 rfl) ?_
        refine lv_iconst (v := -1) hx hb dX12_source_93 (by decide) ?_
        refine lv_icmp_ne (tgt := 102) hx hb dX12_source_94 (by decide) (fun c_11 => ?_) (fun c_11 => ?_)
        · replace h := itn h c_11
          refine lv_aload_n hx hb dX12_source_102 rfl (lv_at hl 0 rfl) ?_
          refine lv_bipush (v := -5) hx hb dX12_source_103 (by decide) ?_
          replace h := b2_eq h; obtain ⟨r_12, s_13, hc_14, h⟩ := h
          refine R_call (rest := []) [.int r_12] (R_runV (n := 1) (As := [.int (-5 : Int32)]) ⟨hx, hb, hml, hown, ht⟩ (fun _ h9 => h9) hK hZ hA hB (c_X12_no l g P σ1 (-5 : Int32) H.size hc_14) (R_recv hK hB (by decide) (cell_8 rfl) rfl) tw1042 tw1039 tw1041 pw26 tw5 ⟨by decide, by decide, by decide⟩ rfl rfl ⟨Nat.le_of_ble_eq_true rfl, Nat.le_of_ble_eq_true rfl⟩ rfl hl.1 rfl (Nat.le_of_ble_eq_true rfl) dX12_source_105 ⟨Nat.zero_le _, Nat.zero_le _⟩) hB hA rfl (fun H locs hB => ?_)
          obtain ⟨rfl, rfl⟩ := Prod.mk.inj (Option.some.inj h)
          exact W.iret hx hb hr (R_end hB) hB.2.2.2.2 dX12_source_108
        · replace h := itp h c_11
          refine lv_iload hx hb dX12_source_97 (lv_at hl 4 rfl) ?_
          refine lv_goto (tgt := 108) hx hb dX12_source_99 (by decide) ?_
          obtain ⟨rfl, rfl⟩ := Prod.mk.inj (Option.some.inj h)
          exact W.iret hx hb hr (R_end hB) hB.2.2.2.2 dX12_source_108
      · replace h := itn h c_10
        refine lv_aload_n hx hb dX12_source_56 rfl (lv_at hl 0 rfl) ?_
        refine lv_iload_n hx hb dX12_source_57 rfl (lv_at hl 1 rfl) ?_
        refine lv_iload hx hb dX12_source_58 (lv_at hl 5 rfl) ?_
        refine lv_i2l (v := x6.toInt64) hx hb dX12_source_60 rfl ?_
        replace h := b2_eq h; obtain ⟨r_15, s_16, hc_17, h⟩ := h
        refine R_call (rest := []) [.long r_15] (R_runV (n := 2) (As := [.int x1, .long x6.toInt64]) ⟨hx, hb, hml, hown, ht⟩ (fun _ h9 => h9) hK hZ hA hB (c_X12_nextOf l g P σ1 x1 x6.toInt64 H.size hc_17) (R_recv hK hB (by decide) (cell_8 rfl) rfl) tw1075 tw1072 tw1074 pw28 tw5 ⟨by decide, by decide, by decide⟩ rfl rfl ⟨Nat.le_of_ble_eq_true rfl, Nat.le_of_ble_eq_true rfl⟩ rfl hl.1 rfl (Nat.le_of_ble_eq_true rfl) dX12_source_61 ⟨Nat.zero_le _, Nat.zero_le _⟩) hB hA rfl (fun H locs hB => ?_)
        refine lv_lload_n hx hb dX12_source_64 rfl (lv_at hl 2 rfl) ?_
        refine W.lcmp hx hb dX12_source_65 ?_
        refine lv_if_eq (tgt := 72) hx hb dX12_source_66 (by decide) (fun c_18 => ?_) (fun c_18 => ?_)
        · replace h := itp h c_18
          refine lv_iload hx hb dX12_source_72 (lv_at hl 4 rfl) ?_
          refine lv_iload hx hb dX12_source_74 (lv_at hl 3 rfl) ?_
          refine lv_icmp_ne (tgt := 82) hx hb dX12_source_76 (by decide) (fun c_19 => ?_) (fun c_19 => ?_)
          · replace h := itn h c_19
            refine lv_iinc (v := x5 + 1) (lv' := [(5, .int (x5 + 1)), (0, .ref (gL g 40)), (1, .int x1), (2, .long x2), (4, .int x4), (6, .int x6)]) hx hb dX12_source_82 hl (k := 4) rfl rfl (by decide) rfl (fun ls hl => ?_)
            exact hb_85 (x5 + 1) x6 s_16 H locs ls h hB (lv_sub hl [1, 2, 3, 4, 0, 5] rfl)
          · replace h := itp h c_19
            replace h := ex_eq h; obtain ⟨b1, h, hz1⟩ := h
            subst hz1
            have hz1 := (itk_inr hx1).symm
            subst hz1
            refine lv_iload hx hb dX12_source_79 (lv_at hl 5 rfl) ?_
            obtain ⟨rfl, rfl⟩ := Prod.mk.inj (Option.some.inj h)
            exact W.iret hx hb hr (R_end hB) hB.2.2.2.2 dX12_source_81
        · replace h := itn h c_18
          refine lv_goto (tgt := 85) hx hb dX12_source_69 (by decide) ?_
          exact hb_85 x5 x6 s_16 H locs ls h hB (lv_sub hl [0, 1, 2, 3, 4, 5] rfl)
  suffices hmain : ∀ (H : Heap) (locs : List Loc) (ls : Array Slot), tB g P σ A s.heap H locs → lv_has ls 7 [(0, .ref (gL g 40)), (1, .int a1), (2, .long a2), (4, .int a4)] → WQ p l e { frames := 3, cells := 0, slots := 0, locals := 82 } s m args below meth c g P A (some (.int r)) τ H locs (F0 m 0 ls []) from hmain _ _ ls0 hB0 hl0
  intro H locs ls hB hl
  unfold f_X12_source at h
  refine lv_aload_n hx hb dX12_source_0 rfl (lv_at hl 0 rfl) ?_
  refine lv_iload_n hx hb dX12_source_1 rfl (lv_at hl 1 rfl) ?_
  replace h := b2_eq h; obtain ⟨r_1, s_2, hc_3, h⟩ := h
  refine R_call (rest := []) [.int r_1] (R_runV (n := 1) (As := [.int a1]) ⟨hx, hb, hml, hown, ht⟩ (fun _ h9 => h9) hK hZ hA hB (c_X12_isLaw l g P σ a1 H.size hc_3) (R_recv hK hB (by decide) (cell_8 rfl) rfl) tw1062 tw1059 tw1061 pw27 tw5 ⟨by decide, by decide, by decide⟩ rfl rfl ⟨Nat.le_of_ble_eq_true rfl, Nat.le_of_ble_eq_true rfl⟩ rfl hl.1 rfl (Nat.le_of_ble_eq_true rfl) dX12_source_2 ⟨Nat.zero_le _, Nat.zero_le _⟩) hB hA rfl (fun H locs hB => ?_)
  refine lv_if_ne (tgt := 14) hx hb dX12_source_5 (by decide) (fun c_4 => ?_) (fun c_4 => ?_)
  · replace h := itn h c_4
    refine lv_iload hx hb dX12_source_14 (lv_at hl 3 rfl) ?_
    refine lv_iconst (v := -1) hx hb dX12_source_16 (by decide) ?_
    refine lv_icmp_ge (tgt := 27) hx hb dX12_source_17 (by decide) (fun c_5 => ?_) (fun c_5 => ?_)
    · replace h := itp h c_5
      refine lv_aload_n hx hb dX12_source_27 rfl (lv_at hl 0 rfl) ?_
      refine lv_lload_n hx hb dX12_source_28 rfl (lv_at hl 2 rfl) ?_
      replace h := b2_eq h; obtain ⟨r_6, s_7, hc_8, h⟩ := h
      refine R_call (rest := []) [.int r_6] (R_runV (n := 1) (As := [.long a2]) ⟨hx, hb, hml, hown, ht⟩ (fun _ h9 => h9) hK hZ hA hB (c_X12_isNumber l g P s_2 a2 H.size hc_8) (R_recv hK hB (by decide) (cell_8 rfl) rfl) tw1177 tw1174 tw1176 pw45 tw5 ⟨by decide, by decide, by decide⟩ rfl rfl ⟨Nat.le_of_ble_eq_true rfl, Nat.le_of_ble_eq_true rfl⟩ rfl hl.1 rfl (Nat.le_of_ble_eq_true rfl) dX12_source_29 ⟨Nat.zero_le _, Nat.zero_le _⟩) hB hA rfl (fun H locs hB => ?_)
      refine lv_if_ne (tgt := 42) hx hb dX12_source_32 (by decide) (fun c_9 => ?_) (fun c_9 => ?_)
      · replace h := itn h c_9
        refine lv_iconst (v := 0) hx hb dX12_source_42 (by decide) ?_
        refine lv_istore (lv' := [(5, .int (0 : Int32)), (0, .ref (gL g 40)), (1, .int a1), (2, .long a2), (4, .int a4)]) hx hb dX12_source_43 hl (by decide) rfl (fun ls hl => ?_)
        refine lv_iconst (v := 0) hx hb dX12_source_45 (by decide) ?_
        refine lv_istore (lv' := [(6, .int (0 : Int32)), (5, .int (0 : Int32)), (0, .ref (gL g 40)), (1, .int a1), (2, .long a2), (4, .int a4)]) hx hb dX12_source_46 hl (by decide) rfl (fun ls hl => ?_)
        exact hL_48 a1 a2 a4 fuel (0 : Int32) (0 : Int32) s_7 H locs ls h hB (lv_sub hl [2, 3, 4, 5, 1, 0] rfl)
      · replace h := itp h c_9
        refine lv_aload_n hx hb dX12_source_35 rfl (lv_at hl 0 rfl) ?_
        refine lv_bipush (v := -6) hx hb dX12_source_36 (by decide) ?_
        replace h := b2_eq h; obtain ⟨r_20, s_21, hc_22, h⟩ := h
        refine R_call (rest := []) [.int r_20] (R_runV (n := 1) (As := [.int (-6 : Int32)]) ⟨hx, hb, hml, hown, ht⟩ (fun _ h9 => h9) hK hZ hA hB (c_X12_no l g P s_7 (-6 : Int32) H.size hc_22) (R_recv hK hB (by decide) (cell_8 rfl) rfl) tw1042 tw1039 tw1041 pw26 tw5 ⟨by decide, by decide, by decide⟩ rfl rfl ⟨Nat.le_of_ble_eq_true rfl, Nat.le_of_ble_eq_true rfl⟩ rfl hl.1 rfl (Nat.le_of_ble_eq_true rfl) dX12_source_38 ⟨Nat.zero_le _, Nat.zero_le _⟩) hB hA rfl (fun H locs hB => ?_)
        obtain ⟨rfl, rfl⟩ := Prod.mk.inj (Option.some.inj h)
        exact W.iret hx hb hr (R_end hB) hB.2.2.2.2 dX12_source_41
    · replace h := itn h c_5
      refine lv_aload_n hx hb dX12_source_20 rfl (lv_at hl 0 rfl) ?_
      refine lv_bipush (v := -5) hx hb dX12_source_21 (by decide) ?_
      replace h := b2_eq h; obtain ⟨r_23, s_24, hc_25, h⟩ := h
      refine R_call (rest := []) [.int r_23] (R_runV (n := 1) (As := [.int (-5 : Int32)]) ⟨hx, hb, hml, hown, ht⟩ (fun _ h9 => h9) hK hZ hA hB (c_X12_no l g P s_2 (-5 : Int32) H.size hc_25) (R_recv hK hB (by decide) (cell_8 rfl) rfl) tw1042 tw1039 tw1041 pw26 tw5 ⟨by decide, by decide, by decide⟩ rfl rfl ⟨Nat.le_of_ble_eq_true rfl, Nat.le_of_ble_eq_true rfl⟩ rfl hl.1 rfl (Nat.le_of_ble_eq_true rfl) dX12_source_23 ⟨Nat.zero_le _, Nat.zero_le _⟩) hB hA rfl (fun H locs hB => ?_)
      obtain ⟨rfl, rfl⟩ := Prod.mk.inj (Option.some.inj h)
      exact W.iret hx hb hr (R_end hB) hB.2.2.2.2 dX12_source_26
  · replace h := itp h c_4
    refine lv_aload_n hx hb dX12_source_8 rfl (lv_at hl 0 rfl) ?_
    refine lv_iconst (v := -1) hx hb dX12_source_9 (by decide) ?_
    replace h := b2_eq h; obtain ⟨r_26, s_27, hc_28, h⟩ := h
    refine R_call (rest := []) [.int r_26] (R_runV (n := 1) (As := [.int (-1 : Int32)]) ⟨hx, hb, hml, hown, ht⟩ (fun _ h9 => h9) hK hZ hA hB (c_X12_no l g P s_2 (-1 : Int32) H.size hc_28) (R_recv hK hB (by decide) (cell_8 rfl) rfl) tw1042 tw1039 tw1041 pw26 tw5 ⟨by decide, by decide, by decide⟩ rfl rfl ⟨Nat.le_of_ble_eq_true rfl, Nat.le_of_ble_eq_true rfl⟩ rfl hl.1 rfl (Nat.le_of_ble_eq_true rfl) dX12_source_10 ⟨Nat.zero_le _, Nat.zero_le _⟩) hB hA rfl (fun H locs hB => ?_)
    obtain ⟨rfl, rfl⟩ := Prod.mk.inj (Option.some.inj h)
    exact W.iret hx hb hr (R_end hB) hB.2.2.2.2 dX12_source_13
def f_X12_barren_b30 (σ1 : Hp) : Option (Int32 × Hp) := b2 (f_X12_no (-6 : Int32) σ1) (fun r_6 s_7 => some (r_6, s_7))
def f_X12_barren_b141 (x3 : Int32) (x4 : Int32) (x5 : Int32) (σ1 : Hp) : Option ((Int32 × Int32 × Hp) ⊕ (Int32 × Hp)) := some (.inl (x4, (x5 + 1), σ1))
def f_X12_barren_t122 (x3 : Int32) (x4 : Int32) (x5 : Int32) (σ1 : Hp) : Option ((Int32 × Int32 × Hp) ⊕ (Int32 × Hp)) := if x3 < x5 then ex (some (x4, σ1)) else ck (inb x5 10000 = true) (if (hI σ1 73 x5.toNatClampNeg) = 0 then f_X12_barren_b141 x3 (x4 + 1) x5 σ1 else f_X12_barren_b141 x3 x4 x5 σ1)
def f_X12_barren_s122 (x3 : Int32) (v : (Int32 × Int32 × Hp)) : Option ((Int32 × Int32 × Hp) ⊕ (Int32 × Hp)) := f_X12_barren_t122 x3 v.1 v.2.1 v.2.2
def f_X12_barren_b110 (x1 : Int32) (x2 : Int32) (x3 : Int32) (x4 : Int32) (σ1 : Hp) : Option ((Int32 × Hp) ⊕ (Int32 × Hp)) := some (.inl ((x4 + 1), σ1))
def f_X12_barren_t65 (x1 : Int32) (x2 : Int32) (x3 : Int32) (x4 : Int32) (σ1 : Hp) : Option ((Int32 × Hp) ⊕ (Int32 × Hp)) := if (10000 : Int32) ≤ x4 then ex (iter (f_X12_barren_s122 x3) fuel ((0 : Int32), x2, σ1)) else b2 (f_X12_nextOf x1 x4.toInt64 σ1) (fun r_16 s_17 => if (lg_cmp r_16 (-1 : Int64)) = 0 then f_X12_barren_b110 x1 x2 x3 x4 s_17 else if 0 ≤ (lg_cmp r_16 (10000 : Int64)) then f_X12_barren_b110 x1 x2 x3 x4 s_17 else ck (inb r_16.toInt32 10000 = true) (f_X12_barren_b110 x1 x2 x3 x4 (sI s_17 73 r_16.toInt32.toNatClampNeg (1 : Int32))))
def f_X12_barren_s65 (x1 : Int32) (x2 : Int32) (x3 : Int32) (v : (Int32 × Hp)) : Option ((Int32 × Hp) ⊕ (Int32 × Hp)) := f_X12_barren_t65 x1 x2 x3 v.1 v.2
def f_X12_barren_t40 (x1 : Int32) (x2 : Int32) (x3 : Int32) (x4 : Int32) (σ1 : Hp) : Option ((Int32 × Hp) ⊕ (Int32 × Hp)) := if (10000 : Int32) ≤ x4 then ex (iter (f_X12_barren_s65 x1 x2 x3) fuel ((0 : Int32), σ1)) else ck (inb x4 10000 = true) (some (.inl ((x4 + 1), (sI σ1 73 x4.toNatClampNeg (0 : Int32)))))
def f_X12_barren_s40 (x1 : Int32) (x2 : Int32) (x3 : Int32) (v : (Int32 × Hp)) : Option ((Int32 × Hp) ⊕ (Int32 × Hp)) := f_X12_barren_t40 x1 x2 x3 v.1 v.2
def f_X12_barren (a1 : Int32) (a2 : Int32) (a3 : Int32) (σ : Hp) : Option (Int32 × Hp) := b2 (f_X12_isLaw a1 σ) (fun r_1 s_2 => if r_1 = 0 then b2 (f_X12_no (-1 : Int32) s_2) (fun r_23 s_24 => some (r_23, s_24)) else if a2 < 0 then f_X12_barren_b30 s_2 else if a3 < a2 then f_X12_barren_b30 s_2 else if a3 < (10000 : Int32) then iter (f_X12_barren_s40 a1 a2 a3) fuel ((0 : Int32), s_2) else f_X12_barren_b30 s_2)
set_option maxHeartbeats 4000000 in
set_option maxRecDepth 100000 in
theorem c_X12_barren (l : Launch) (g : tG) (P : Nat → Nat) (σ : Hp) (a1 : Int32) (a2 : Int32) (a3 : Int32) (sz : Nat) {r : Int32} {τ : Hp} (h : f_X12_barren a1 a2 a3 σ = some (r, τ)) : Met l yX12_barren (Cond.code yX12_barren cX12_barren 7 (some .int) :: tblG) ({ frames := 3, cells := 0, slots := 0, locals := 82 }) (va_Pc [.ref (gL g 40), .int a1, .int a2, .int a3] (tPre g P σ sz)) (tQ (some (.int r)) (tPost g P τ (va_A (wC g P σ) sz)) (va_A (wC g P σ) sz)) 0 0 (va_A (wC g P σ) sz) := by
  refine T_start (B := fun A => tPost g P τ A) (by decide) (Nat.le_of_ble_eq_true rfl) ?_
  intro p e s m args below meth c ls0 A hx hb hml hr hown hlocks ht hnm hK hZ hA hB0 hl0
  have hb_30 : ∀ (σ1 : Hp) (H : Heap) (locs : List Loc) (ls : Array Slot), f_X12_barren_b30 σ1 = some (r, τ) → tB g P σ1 A s.heap H locs → lv_has ls 7 [(0, .ref (gL g 40))] → WQ p l e { frames := 3, cells := 0, slots := 0, locals := 82 } s m args below meth c g P A (some (.int r)) τ H locs (F0 m 30 ls []) := by
    intro σ1 H locs ls h hB hl
    unfold f_X12_barren_b30 at h
    refine lv_aload_n hx hb dX12_barren_30 rfl (lv_at hl 0 rfl) ?_
    refine lv_bipush (v := -6) hx hb dX12_barren_31 (by decide) ?_
    replace h := b2_eq h; obtain ⟨r_6, s_7, hc_8, h⟩ := h
    refine R_call (rest := []) [.int r_6] (R_runV (n := 1) (As := [.int (-6 : Int32)]) ⟨hx, hb, hml, hown, ht⟩ (fun _ h9 => h9) hK hZ hA hB (c_X12_no l g P σ1 (-6 : Int32) H.size hc_8) (R_recv hK hB (by decide) (cell_8 rfl) rfl) tw1042 tw1039 tw1041 pw26 tw5 ⟨by decide, by decide, by decide⟩ rfl rfl ⟨Nat.le_of_ble_eq_true rfl, Nat.le_of_ble_eq_true rfl⟩ rfl hl.1 rfl (Nat.le_of_ble_eq_true rfl) dX12_barren_33 ⟨Nat.zero_le _, Nat.zero_le _⟩) hB hA rfl (fun H locs hB => ?_)
    obtain ⟨rfl, rfl⟩ := Prod.mk.inj (Option.some.inj h)
    exact W.iret hx hb hr (R_end hB) hB.2.2.2.2 dX12_barren_36
  have hL_122 : ∀ (x3 : Int32) (n : Nat) (x4 : Int32) (x5 : Int32) (σ1 : Hp) (H : Heap) (locs : List Loc) (ls : Array Slot), iter (f_X12_barren_s122 x3) n (x4, x5, σ1) = some (r, τ) → tB g P σ1 A s.heap H locs → lv_has ls 7 [(0, .ref (gL g 40)), (3, .int x3), (4, .int x4), (5, .int x5)] → WQ p l e { frames := 3, cells := 0, slots := 0, locals := 82 } s m args below meth c g P A (some (.int r)) τ H locs (F0 m 122 ls []) := by
    intro x3 n
    induction n with
    | zero =>
      intro x4 x5 σ1 H locs ls h hB hl
      exact (iter_0 h).elim
    | succ n ih1 =>
      intro x4 x5 σ1 H locs ls h hB hl
      replace h := iter_eq h; obtain ⟨z1, hh1, hx1⟩ := h
      have hb_141 : ∀ (x4 : Int32) (x5 : Int32) (σ1 : Hp) (H : Heap) (locs : List Loc) (ls : Array Slot), f_X12_barren_b141 x3 x4 x5 σ1 = some z1 → tB g P σ1 A s.heap H locs → lv_has ls 7 [(0, .ref (gL g 40)), (3, .int x3), (4, .int x4), (5, .int x5)] → WQ p l e { frames := 3, cells := 0, slots := 0, locals := 82 } s m args below meth c g P A (some (.int r)) τ H locs (F0 m 141 ls []) := by
        intro x4 x5 σ1 H locs ls h hB hl
        unfold f_X12_barren_b141 at h
        refine lv_iinc (v := x5 + 1) (lv' := [(5, .int (x5 + 1)), (0, .ref (gL g 40)), (3, .int x3), (4, .int x4)]) hx hb dX12_barren_141 hl (k := 3) rfl rfl (by decide) rfl (fun ls hl => ?_)
        refine lv_goto (tgt := 122) hx hb dX12_barren_144 (by decide) ?_
        obtain rfl := Option.some.inj h
        exact ih1 x4 (x5 + 1) σ1 H locs ls hx1 hB (lv_sub hl [1, 2, 3, 0] rfl)
      have h : f_X12_barren_t122 x3 x4 x5 σ1 = some z1 := hh1
      clear hh1
      unfold f_X12_barren_t122 at h
      refine lv_iload hx hb dX12_barren_122 (lv_at hl 3 rfl) ?_
      refine lv_iload_n hx hb dX12_barren_124 rfl (lv_at hl 1 rfl) ?_
      refine lv_icmp_gt (tgt := 147) hx hb dX12_barren_125 (by decide) (fun c_13 => ?_) (fun c_13 => ?_)
      · replace h := itp h c_13
        replace h := ex_eq h; obtain ⟨b1, h, hz1⟩ := h
        subst hz1
        have hz1 := (itk_inr hx1).symm
        subst hz1
        refine lv_iload hx hb dX12_barren_147 (lv_at hl 2 rfl) ?_
        obtain ⟨rfl, rfl⟩ := Prod.mk.inj (Option.some.inj h)
        exact W.iret hx hb hr (R_end hB) hB.2.2.2.2 dX12_barren_149
      · replace h := itn h c_13
        refine lv_aload_n hx hb dX12_barren_128 rfl (lv_at hl 0 rfl) ?_
        refine R_get (v := .ref (gL g 73)) hx hb ht ui_X12 hown hK hB (by decide) (cell_8 rfl) rfl 33 (by decide) (ht _ tw949) (fun _ h9 => h9) rfl dX12_barren_129 ?_
        refine lv_iload hx hb dX12_barren_132 (lv_at hl 3 rfl) ?_
        replace h := ck_eq h; obtain ⟨q_14, h⟩ := h
        refine R_iald hx hb hK hB rfl (inb_eq q_14) dX12_barren_134 ?_
        refine lv_if_ne (tgt := 141) hx hb dX12_barren_135 (by decide) (fun c_15 => ?_) (fun c_15 => ?_)
        · replace h := itn h c_15
          exact hb_141 x4 x5 σ1 H locs ls h hB (lv_sub hl [0, 1, 2, 3] rfl)
        · replace h := itp h c_15
          refine lv_iinc (v := x4 + 1) (lv' := [(4, .int (x4 + 1)), (0, .ref (gL g 40)), (3, .int x3), (5, .int x5)]) hx hb dX12_barren_138 hl (k := 2) rfl rfl (by decide) rfl (fun ls hl => ?_)
          exact hb_141 (x4 + 1) x5 σ1 H locs ls h hB (lv_sub hl [1, 2, 0, 3] rfl)
  have hL_65 : ∀ (x1 : Int32) (x2 : Int32) (x3 : Int32) (n : Nat) (x4 : Int32) (σ1 : Hp) (H : Heap) (locs : List Loc) (ls : Array Slot), iter (f_X12_barren_s65 x1 x2 x3) n (x4, σ1) = some (r, τ) → tB g P σ1 A s.heap H locs → lv_has ls 7 [(0, .ref (gL g 40)), (1, .int x1), (2, .int x2), (3, .int x3), (4, .int x4)] → WQ p l e { frames := 3, cells := 0, slots := 0, locals := 82 } s m args below meth c g P A (some (.int r)) τ H locs (F0 m 65 ls []) := by
    intro x1 x2 x3 n
    induction n with
    | zero =>
      intro x4 σ1 H locs ls h hB hl
      exact (iter_0 h).elim
    | succ n ih1 =>
      intro x4 σ1 H locs ls h hB hl
      replace h := iter_eq h; obtain ⟨z1, hh1, hx1⟩ := h
      have hb_110 : ∀ (x4 : Int32) (σ1 : Hp) (H : Heap) (locs : List Loc) (ls : Array Slot), f_X12_barren_b110 x1 x2 x3 x4 σ1 = some z1 → tB g P σ1 A s.heap H locs → lv_has ls 7 [(0, .ref (gL g 40)), (1, .int x1), (2, .int x2), (3, .int x3), (4, .int x4)] → WQ p l e { frames := 3, cells := 0, slots := 0, locals := 82 } s m args below meth c g P A (some (.int r)) τ H locs (F0 m 110 ls []) := by
        intro x4 σ1 H locs ls h hB hl
        unfold f_X12_barren_b110 at h
        refine lv_iinc (v := x4 + 1) (lv' := [(4, .int (x4 + 1)), (0, .ref (gL g 40)), (1, .int x1), (2, .int x2), (3, .int x3)]) hx hb dX12_barren_110 hl (k := 4) rfl rfl (by decide) rfl (fun ls hl => ?_)
        refine lv_goto (tgt := 65) hx hb dX12_barren_113 (by decide) ?_
        obtain rfl := Option.some.inj h
        exact ih1 (x4 + 1) σ1 H locs ls hx1 hB (lv_sub hl [1, 2, 3, 4, 0] rfl)
      have h : f_X12_barren_t65 x1 x2 x3 x4 σ1 = some z1 := hh1
      clear hh1
      unfold f_X12_barren_t65 at h
      refine lv_iload hx hb dX12_barren_65 (lv_at hl 4 rfl) ?_
      refine lv_sipush (v := 10000) hx hb dX12_barren_67 (by decide) ?_
      refine lv_icmp_ge (tgt := 116) hx hb dX12_barren_70 (by decide) (fun c_12 => ?_) (fun c_12 => ?_)
      · replace h := itp h c_12
        replace h := ex_eq h; obtain ⟨b1, h, hz1⟩ := h
        subst hz1
        have hz1 := (itk_inr hx1).symm
        subst hz1
        refine lv_iconst (v := 0) hx hb dX12_barren_116 (by decide) ?_
        refine lv_istore (lv' := [(4, .int (0 : Int32)), (0, .ref (gL g 40)), (1, .int x1), (2, .int x2), (3, .int x3)]) hx hb dX12_barren_117 hl (by decide) rfl (fun ls hl => ?_)
        refine lv_iload_n hx hb dX12_barren_119 rfl (lv_at hl 3 rfl) ?_
        refine lv_istore (lv' := [(5, .int x2), (4, .int (0 : Int32)), (0, .ref (gL g 40)), (1, .int x1), (2, .int x2), (3, .int x3)]) hx hb dX12_barren_120 hl (by decide) rfl (fun ls hl => ?_)
        exact hL_122 x3 fuel (0 : Int32) x2 σ1 H locs ls h hB (lv_sub hl [2, 5, 1, 0] rfl)
      · replace h := itn h c_12
        refine lv_aload_n hx hb dX12_barren_73 rfl (lv_at hl 0 rfl) ?_
        refine lv_iload_n hx hb dX12_barren_74 rfl (lv_at hl 1 rfl) ?_
        refine lv_iload hx hb dX12_barren_75 (lv_at hl 4 rfl) ?_
        refine lv_i2l (v := x4.toInt64) hx hb dX12_barren_77 rfl ?_
        replace h := b2_eq h; obtain ⟨r_16, s_17, hc_18, h⟩ := h
        refine R_call (rest := []) [.long r_16] (R_runV (n := 2) (As := [.int x1, .long x4.toInt64]) ⟨hx, hb, hml, hown, ht⟩ (fun _ h9 => h9) hK hZ hA hB (c_X12_nextOf l g P σ1 x1 x4.toInt64 H.size hc_18) (R_recv hK hB (by decide) (cell_8 rfl) rfl) tw1075 tw1072 tw1074 pw28 tw5 ⟨by decide, by decide, by decide⟩ rfl rfl ⟨Nat.le_of_ble_eq_true rfl, Nat.le_of_ble_eq_true rfl⟩ rfl hl.1 rfl (Nat.le_of_ble_eq_true rfl) dX12_barren_78 ⟨Nat.zero_le _, Nat.zero_le _⟩) hB hA rfl (fun H locs hB => ?_)
        refine lv_lstore (lv' := [(5, .long r_16), (0, .ref (gL g 40)), (1, .int x1), (2, .int x2), (3, .int x3), (4, .int x4)]) hx hb dX12_barren_81 hl (by decide) rfl (fun ls hl => ?_)
        refine lv_lload hx hb dX12_barren_83 (lv_at hl 0 rfl) ?_
        refine lv_ldc2 (v := -1) hx hb hown (ht _ tw1089) dX12_barren_85 ?_
        refine W.lcmp hx hb dX12_barren_88 ?_
        refine lv_if_eq (tgt := 110) hx hb dX12_barren_89 (by decide) (fun c_19 => ?_) (fun c_19 => ?_)
        · replace h := itp h c_19
          exact hb_110 x4 s_17 H locs ls h hB (lv_sub hl [1, 2, 3, 4, 5] rfl)
        · replace h := itn h c_19
          refine lv_lload hx hb dX12_barren_92 (lv_at hl 0 rfl) ?_
          refine lv_ldc2 (v := 10000) hx hb hown (ht _ tw1238) dX12_barren_94 ?_
          refine W.lcmp hx hb dX12_barren_97 ?_
          refine lv_if_ge (tgt := 110) hx hb dX12_barren_98 (by decide) (fun c_20 => ?_) (fun c_20 => ?_)
          · replace h := itp h c_20
            exact hb_110 x4 s_17 H locs ls h hB (lv_sub hl [1, 2, 3, 4, 5] rfl)
          · replace h := itn h c_20
            refine lv_aload_n hx hb dX12_barren_101 rfl (lv_at hl 1 rfl) ?_
            refine R_get (v := .ref (gL g 73)) hx hb ht ui_X12 hown hK hB (by decide) (cell_8 rfl) rfl 33 (by decide) (ht _ tw949) (fun _ h9 => h9) rfl dX12_barren_102 ?_
            refine lv_lload hx hb dX12_barren_105 (lv_at hl 0 rfl) ?_
            refine lv_l2i (v := r_16.toInt32) hx hb dX12_barren_107 rfl ?_
            refine lv_iconst (v := 1) hx hb dX12_barren_108 (by decide) ?_
            replace h := ck_eq h; obtain ⟨q_21, h⟩ := h
            refine R_iast hx hb hK hB rfl (inb_eq q_21) dX12_barren_109 (fun H locs hB => ?_)
            exact hb_110 x4 (sI s_17 73 r_16.toInt32.toNatClampNeg (1 : Int32)) H locs ls h hB (lv_sub hl [1, 2, 3, 4, 5] rfl)
  have hL_40 : ∀ (x1 : Int32) (x2 : Int32) (x3 : Int32) (n : Nat) (x4 : Int32) (σ1 : Hp) (H : Heap) (locs : List Loc) (ls : Array Slot), iter (f_X12_barren_s40 x1 x2 x3) n (x4, σ1) = some (r, τ) → tB g P σ1 A s.heap H locs → lv_has ls 7 [(0, .ref (gL g 40)), (1, .int x1), (2, .int x2), (3, .int x3), (4, .int x4)] → WQ p l e { frames := 3, cells := 0, slots := 0, locals := 82 } s m args below meth c g P A (some (.int r)) τ H locs (F0 m 40 ls []) := by
    intro x1 x2 x3 n
    induction n with
    | zero =>
      intro x4 σ1 H locs ls h hB hl
      exact (iter_0 h).elim
    | succ n ih1 =>
      intro x4 σ1 H locs ls h hB hl
      replace h := iter_eq h; obtain ⟨z1, hh1, hx1⟩ := h
      have h : f_X12_barren_t40 x1 x2 x3 x4 σ1 = some z1 := hh1
      clear hh1
      unfold f_X12_barren_t40 at h
      refine lv_iload hx hb dX12_barren_40 (lv_at hl 4 rfl) ?_
      refine lv_sipush (v := 10000) hx hb dX12_barren_42 (by decide) ?_
      refine lv_icmp_ge (tgt := 62) hx hb dX12_barren_45 (by decide) (fun c_11 => ?_) (fun c_11 => ?_)
      · replace h := itp h c_11
        replace h := ex_eq h; obtain ⟨b1, h, hz1⟩ := h
        subst hz1
        have hz1 := (itk_inr hx1).symm
        subst hz1
        refine lv_iconst (v := 0) hx hb dX12_barren_62 (by decide) ?_
        refine lv_istore (lv' := [(4, .int (0 : Int32)), (0, .ref (gL g 40)), (1, .int x1), (2, .int x2), (3, .int x3)]) hx hb dX12_barren_63 hl (by decide) rfl (fun ls hl => ?_)
        exact hL_65 x1 x2 x3 fuel (0 : Int32) σ1 H locs ls h hB (lv_sub hl [1, 2, 3, 4, 0] rfl)
      · replace h := itn h c_11
        refine lv_aload_n hx hb dX12_barren_48 rfl (lv_at hl 0 rfl) ?_
        refine R_get (v := .ref (gL g 73)) hx hb ht ui_X12 hown hK hB (by decide) (cell_8 rfl) rfl 33 (by decide) (ht _ tw949) (fun _ h9 => h9) rfl dX12_barren_49 ?_
        refine lv_iload hx hb dX12_barren_52 (lv_at hl 4 rfl) ?_
        refine lv_iconst (v := 0) hx hb dX12_barren_54 (by decide) ?_
        replace h := ck_eq h; obtain ⟨q_22, h⟩ := h
        refine R_iast hx hb hK hB rfl (inb_eq q_22) dX12_barren_55 (fun H locs hB => ?_)
        refine lv_iinc (v := x4 + 1) (lv' := [(4, .int (x4 + 1)), (0, .ref (gL g 40)), (1, .int x1), (2, .int x2), (3, .int x3)]) hx hb dX12_barren_56 hl (k := 4) rfl rfl (by decide) rfl (fun ls hl => ?_)
        refine lv_goto (tgt := 40) hx hb dX12_barren_59 (by decide) ?_
        obtain rfl := Option.some.inj h
        exact ih1 (x4 + 1) (sI σ1 73 x4.toNatClampNeg (0 : Int32)) H locs ls hx1 hB (lv_sub hl [1, 2, 3, 4, 0] rfl)
  suffices hmain : ∀ (H : Heap) (locs : List Loc) (ls : Array Slot), tB g P σ A s.heap H locs → lv_has ls 7 [(0, .ref (gL g 40)), (1, .int a1), (2, .int a2), (3, .int a3)] → WQ p l e { frames := 3, cells := 0, slots := 0, locals := 82 } s m args below meth c g P A (some (.int r)) τ H locs (F0 m 0 ls []) from hmain _ _ ls0 hB0 hl0
  intro H locs ls hB hl
  unfold f_X12_barren at h
  refine lv_aload_n hx hb dX12_barren_0 rfl (lv_at hl 0 rfl) ?_
  refine lv_iload_n hx hb dX12_barren_1 rfl (lv_at hl 1 rfl) ?_
  replace h := b2_eq h; obtain ⟨r_1, s_2, hc_3, h⟩ := h
  refine R_call (rest := []) [.int r_1] (R_runV (n := 1) (As := [.int a1]) ⟨hx, hb, hml, hown, ht⟩ (fun _ h9 => h9) hK hZ hA hB (c_X12_isLaw l g P σ a1 H.size hc_3) (R_recv hK hB (by decide) (cell_8 rfl) rfl) tw1062 tw1059 tw1061 pw27 tw5 ⟨by decide, by decide, by decide⟩ rfl rfl ⟨Nat.le_of_ble_eq_true rfl, Nat.le_of_ble_eq_true rfl⟩ rfl hl.1 rfl (Nat.le_of_ble_eq_true rfl) dX12_barren_2 ⟨Nat.zero_le _, Nat.zero_le _⟩) hB hA rfl (fun H locs hB => ?_)
  refine lv_if_ne (tgt := 14) hx hb dX12_barren_5 (by decide) (fun c_4 => ?_) (fun c_4 => ?_)
  · replace h := itn h c_4
    refine lv_iload_n hx hb dX12_barren_14 rfl (lv_at hl 2 rfl) ?_
    refine lv_if_lt (tgt := 30) hx hb dX12_barren_15 (by decide) (fun c_5 => ?_) (fun c_5 => ?_)
    · replace h := itp h c_5
      exact hb_30 s_2 H locs ls h hB (lv_sub hl [0] rfl)
    · replace h := itn h c_5
      refine lv_iload_n hx hb dX12_barren_18 rfl (lv_at hl 3 rfl) ?_
      refine lv_iload_n hx hb dX12_barren_19 rfl (lv_at hl 2 rfl) ?_
      refine lv_icmp_lt (tgt := 30) hx hb dX12_barren_20 (by decide) (fun c_9 => ?_) (fun c_9 => ?_)
      · replace h := itp h c_9
        exact hb_30 s_2 H locs ls h hB (lv_sub hl [0] rfl)
      · replace h := itn h c_9
        refine lv_iload_n hx hb dX12_barren_23 rfl (lv_at hl 3 rfl) ?_
        refine lv_sipush (v := 10000) hx hb dX12_barren_24 (by decide) ?_
        refine lv_icmp_lt (tgt := 37) hx hb dX12_barren_27 (by decide) (fun c_10 => ?_) (fun c_10 => ?_)
        · replace h := itp h c_10
          refine lv_iconst (v := 0) hx hb dX12_barren_37 (by decide) ?_
          refine lv_istore (lv' := [(4, .int (0 : Int32)), (0, .ref (gL g 40)), (1, .int a1), (2, .int a2), (3, .int a3)]) hx hb dX12_barren_38 hl (by decide) rfl (fun ls hl => ?_)
          exact hL_40 a1 a2 a3 fuel (0 : Int32) s_2 H locs ls h hB (lv_sub hl [1, 2, 3, 4, 0] rfl)
        · replace h := itn h c_10
          exact hb_30 s_2 H locs ls h hB (lv_sub hl [0] rfl)
  · replace h := itp h c_4
    refine lv_aload_n hx hb dX12_barren_8 rfl (lv_at hl 0 rfl) ?_
    refine lv_iconst (v := -1) hx hb dX12_barren_9 (by decide) ?_
    replace h := b2_eq h; obtain ⟨r_23, s_24, hc_25, h⟩ := h
    refine R_call (rest := []) [.int r_23] (R_runV (n := 1) (As := [.int (-1 : Int32)]) ⟨hx, hb, hml, hown, ht⟩ (fun _ h9 => h9) hK hZ hA hB (c_X12_no l g P s_2 (-1 : Int32) H.size hc_25) (R_recv hK hB (by decide) (cell_8 rfl) rfl) tw1042 tw1039 tw1041 pw26 tw5 ⟨by decide, by decide, by decide⟩ rfl rfl ⟨Nat.le_of_ble_eq_true rfl, Nat.le_of_ble_eq_true rfl⟩ rfl hl.1 rfl (Nat.le_of_ble_eq_true rfl) dX12_barren_10 ⟨Nat.zero_le _, Nat.zero_le _⟩) hB hA rfl (fun H locs hB => ?_)
    obtain ⟨rfl, rfl⟩ := Prod.mk.inj (Option.some.inj h)
    exact W.iret hx hb hr (R_end hB) hB.2.2.2.2 dX12_barren_13
def f_X12_longest_b26 (σ1 : Hp) : Option (Int32 × Hp) := b2 (f_X12_noTen (-6 : Int32) σ1) (fun r_6 s_7 => some (r_6, s_7))
def f_X12_longest_b74 (x1 : Int32) (x2 : Int32) (x3 : Int32) (x4 : Int32) (x5 : Int32) (σ1 : Hp) : Option ((Int32 × Int32 × Int32 × Hp) ⊕ (Int32 × Hp)) := some (.inl (x3, x4, (x5 + 1), σ1))
def f_X12_longest_t41 (x1 : Int32) (x2 : Int32) (x3 : Int32) (x4 : Int32) (x5 : Int32) (σ1 : Hp) : Option ((Int32 × Int32 × Int32 × Hp) ⊕ (Int32 × Hp)) := if x2 ≤ x5 then ex (some (x3, σ1)) else b2 (f_X12_goesOf x1 x5.toInt64 σ1) (fun r_11 s_12 => if x4 < r_11 then f_X12_longest_b74 x1 x2 x5 r_11 x5 s_12 else f_X12_longest_b74 x1 x2 x3 x4 x5 s_12)
def f_X12_longest_s41 (x1 : Int32) (x2 : Int32) (v : (Int32 × Int32 × Int32 × Hp)) : Option ((Int32 × Int32 × Int32 × Hp) ⊕ (Int32 × Hp)) := f_X12_longest_t41 x1 x2 v.1 v.2.1 v.2.2.1 v.2.2.2
def f_X12_longest (a1 : Int32) (a2 : Int32) (σ : Hp) : Option (Int32 × Hp) := b2 (f_X12_isLaw a1 σ) (fun r_1 s_2 => if r_1 = 0 then b2 (f_X12_noTen (-1 : Int32) s_2) (fun r_15 s_16 => some (r_15, s_16)) else if a2 < (1 : Int32) then f_X12_longest_b26 s_2 else if a2 ≤ (2000 : Int32) then iter (f_X12_longest_s41 a1 a2) fuel ((-1 : Int32), (-1 : Int32), (0 : Int32), s_2) else f_X12_longest_b26 s_2)
set_option maxHeartbeats 4000000 in
set_option maxRecDepth 100000 in
theorem c_X12_longest (l : Launch) (g : tG) (P : Nat → Nat) (σ : Hp) (a1 : Int32) (a2 : Int32) (sz : Nat) {r : Int32} {τ : Hp} (h : f_X12_longest a1 a2 σ = some (r, τ)) : Met l yX12_longest (Cond.code yX12_longest cX12_longest 7 (some .int) :: tblG) ({ frames := 4, cells := 0, slots := 0, locals := 106 }) (va_Pc [.ref (gL g 40), .int a1, .int a2] (tPre g P σ sz)) (tQ (some (.int r)) (tPost g P τ (va_A (wC g P σ) sz)) (va_A (wC g P σ) sz)) 0 0 (va_A (wC g P σ) sz) := by
  refine T_start (B := fun A => tPost g P τ A) (by decide) (Nat.le_of_ble_eq_true rfl) ?_
  intro p e s m args below meth c ls0 A hx hb hml hr hown hlocks ht hnm hK hZ hA hB0 hl0
  have hb_26 : ∀ (σ1 : Hp) (H : Heap) (locs : List Loc) (ls : Array Slot), f_X12_longest_b26 σ1 = some (r, τ) → tB g P σ1 A s.heap H locs → lv_has ls 7 [(0, .ref (gL g 40))] → WQ p l e { frames := 4, cells := 0, slots := 0, locals := 106 } s m args below meth c g P A (some (.int r)) τ H locs (F0 m 26 ls []) := by
    intro σ1 H locs ls h hB hl
    unfold f_X12_longest_b26 at h
    refine lv_aload_n hx hb dX12_longest_26 rfl (lv_at hl 0 rfl) ?_
    refine lv_bipush (v := -6) hx hb dX12_longest_27 (by decide) ?_
    replace h := b2_eq h; obtain ⟨r_6, s_7, hc_8, h⟩ := h
    refine R_call (rest := []) [.int r_6] (R_runV (n := 1) (As := [.int (-6 : Int32)]) ⟨hx, hb, hml, hown, ht⟩ (fun _ h9 => h9) hK hZ hA hB (c_X12_noTen l g P σ1 (-6 : Int32) H.size hc_8) (R_recv hK hB (by decide) (cell_8 rfl) rfl) tw1209 tw1206 tw1208 pw49 tw5 ⟨by decide, by decide, by decide⟩ rfl rfl ⟨Nat.le_of_ble_eq_true rfl, Nat.le_of_ble_eq_true rfl⟩ rfl hl.1 rfl (Nat.le_of_ble_eq_true rfl) dX12_longest_29 ⟨Nat.zero_le _, Nat.zero_le _⟩) hB hA rfl (fun H locs hB => ?_)
    obtain ⟨rfl, rfl⟩ := Prod.mk.inj (Option.some.inj h)
    exact W.iret hx hb hr (R_end hB) hB.2.2.2.2 dX12_longest_32
  have hL_41 : ∀ (x1 : Int32) (x2 : Int32) (n : Nat) (x3 : Int32) (x4 : Int32) (x5 : Int32) (σ1 : Hp) (H : Heap) (locs : List Loc) (ls : Array Slot), iter (f_X12_longest_s41 x1 x2) n (x3, x4, x5, σ1) = some (r, τ) → tB g P σ1 A s.heap H locs → lv_has ls 7 [(0, .ref (gL g 40)), (1, .int x1), (2, .int x2), (3, .int x3), (4, .int x4), (5, .int x5)] → WQ p l e { frames := 4, cells := 0, slots := 0, locals := 106 } s m args below meth c g P A (some (.int r)) τ H locs (F0 m 41 ls []) := by
    intro x1 x2 n
    induction n with
    | zero =>
      intro x3 x4 x5 σ1 H locs ls h hB hl
      exact (iter_0 h).elim
    | succ n ih1 =>
      intro x3 x4 x5 σ1 H locs ls h hB hl
      replace h := iter_eq h; obtain ⟨z1, hh1, hx1⟩ := h
      have hb_74 : ∀ (x3 : Int32) (x4 : Int32) (x5 : Int32) (σ1 : Hp) (H : Heap) (locs : List Loc) (ls : Array Slot), f_X12_longest_b74 x1 x2 x3 x4 x5 σ1 = some z1 → tB g P σ1 A s.heap H locs → lv_has ls 7 [(0, .ref (gL g 40)), (1, .int x1), (2, .int x2), (3, .int x3), (4, .int x4), (5, .int x5)] → WQ p l e { frames := 4, cells := 0, slots := 0, locals := 106 } s m args below meth c g P A (some (.int r)) τ H locs (F0 m 74 ls []) := by
        intro x3 x4 x5 σ1 H locs ls h hB hl
        unfold f_X12_longest_b74 at h
        refine lv_iinc (v := x5 + 1) (lv' := [(5, .int (x5 + 1)), (0, .ref (gL g 40)), (1, .int x1), (2, .int x2), (3, .int x3), (4, .int x4)]) hx hb dX12_longest_74 hl (k := 5) rfl rfl (by decide) rfl (fun ls hl => ?_)
        refine lv_goto (tgt := 41) hx hb dX12_longest_77 (by decide) ?_
        obtain rfl := Option.some.inj h
        exact ih1 x3 x4 (x5 + 1) σ1 H locs ls hx1 hB (lv_sub hl [1, 2, 3, 4, 5, 0] rfl)
      have h : f_X12_longest_t41 x1 x2 x3 x4 x5 σ1 = some z1 := hh1
      clear hh1
      unfold f_X12_longest_t41 at h
      refine lv_iload hx hb dX12_longest_41 (lv_at hl 5 rfl) ?_
      refine lv_iload_n hx hb dX12_longest_43 rfl (lv_at hl 2 rfl) ?_
      refine lv_icmp_ge (tgt := 80) hx hb dX12_longest_44 (by decide) (fun c_10 => ?_) (fun c_10 => ?_)
      · replace h := itp h c_10
        replace h := ex_eq h; obtain ⟨b1, h, hz1⟩ := h
        subst hz1
        have hz1 := (itk_inr hx1).symm
        subst hz1
        refine lv_iload_n hx hb dX12_longest_80 rfl (lv_at hl 3 rfl) ?_
        obtain ⟨rfl, rfl⟩ := Prod.mk.inj (Option.some.inj h)
        exact W.iret hx hb hr (R_end hB) hB.2.2.2.2 dX12_longest_81
      · replace h := itn h c_10
        refine lv_aload_n hx hb dX12_longest_47 rfl (lv_at hl 0 rfl) ?_
        refine lv_iload_n hx hb dX12_longest_48 rfl (lv_at hl 1 rfl) ?_
        refine lv_iload hx hb dX12_longest_49 (lv_at hl 5 rfl) ?_
        refine lv_i2l (v := x5.toInt64) hx hb dX12_longest_51 rfl ?_
        replace h := b2_eq h; obtain ⟨r_11, s_12, hc_13, h⟩ := h
        refine R_call (rest := []) [.int r_11] (R_runV (n := 2) (As := [.int x1, .long x5.toInt64]) ⟨hx, hb, hml, hown, ht⟩ (fun _ h9 => h9) hK hZ hA hB (c_X12_goesOf l g P σ1 x1 x5.toInt64 H.size hc_13) (R_recv hK hB (by decide) (cell_8 rfl) rfl) tw1213 tw1210 tw1212 pw50 tw5 ⟨by decide, by decide, by decide⟩ rfl rfl ⟨Nat.le_of_ble_eq_true rfl, Nat.le_of_ble_eq_true rfl⟩ rfl hl.1 rfl (Nat.le_of_ble_eq_true rfl) dX12_longest_52 ⟨Nat.zero_le _, Nat.zero_le _⟩) hB hA rfl (fun H locs hB => ?_)
        refine lv_istore (lv' := [(6, .int r_11), (0, .ref (gL g 40)), (1, .int x1), (2, .int x2), (3, .int x3), (4, .int x4), (5, .int x5)]) hx hb dX12_longest_55 hl (by decide) rfl (fun ls hl => ?_)
        refine lv_iload hx hb dX12_longest_57 (lv_at hl 0 rfl) ?_
        refine lv_iload hx hb dX12_longest_59 (lv_at hl 5 rfl) ?_
        refine lv_icmp_gt (tgt := 67) hx hb dX12_longest_61 (by decide) (fun c_14 => ?_) (fun c_14 => ?_)
        · replace h := itp h c_14
          refine lv_iload hx hb dX12_longest_67 (lv_at hl 6 rfl) ?_
          refine lv_istore_n (lv' := [(3, .int x5), (6, .int r_11), (0, .ref (gL g 40)), (1, .int x1), (2, .int x2), (4, .int x4), (5, .int x5)]) hx hb dX12_longest_69 rfl hl (by decide) rfl (fun ls hl => ?_)
          refine lv_iload hx hb dX12_longest_70 (lv_at hl 1 rfl) ?_
          refine lv_istore (lv' := [(4, .int r_11), (3, .int x5), (6, .int r_11), (0, .ref (gL g 40)), (1, .int x1), (2, .int x2), (5, .int x5)]) hx hb dX12_longest_72 hl (by decide) rfl (fun ls hl => ?_)
          exact hb_74 x5 r_11 x5 s_12 H locs ls h hB (lv_sub hl [3, 4, 5, 1, 0, 6] rfl)
        · replace h := itn h c_14
          refine lv_goto (tgt := 74) hx hb dX12_longest_64 (by decide) ?_
          exact hb_74 x3 x4 x5 s_12 H locs ls h hB (lv_sub hl [1, 2, 3, 4, 5, 6] rfl)
  suffices hmain : ∀ (H : Heap) (locs : List Loc) (ls : Array Slot), tB g P σ A s.heap H locs → lv_has ls 7 [(0, .ref (gL g 40)), (1, .int a1), (2, .int a2)] → WQ p l e { frames := 4, cells := 0, slots := 0, locals := 106 } s m args below meth c g P A (some (.int r)) τ H locs (F0 m 0 ls []) from hmain _ _ ls0 hB0 hl0
  intro H locs ls hB hl
  unfold f_X12_longest at h
  refine lv_aload_n hx hb dX12_longest_0 rfl (lv_at hl 0 rfl) ?_
  refine lv_iload_n hx hb dX12_longest_1 rfl (lv_at hl 1 rfl) ?_
  replace h := b2_eq h; obtain ⟨r_1, s_2, hc_3, h⟩ := h
  refine R_call (rest := []) [.int r_1] (R_runV (n := 1) (As := [.int a1]) ⟨hx, hb, hml, hown, ht⟩ (fun _ h9 => h9) hK hZ hA hB (c_X12_isLaw l g P σ a1 H.size hc_3) (R_recv hK hB (by decide) (cell_8 rfl) rfl) tw1062 tw1059 tw1061 pw27 tw5 ⟨by decide, by decide, by decide⟩ rfl rfl ⟨Nat.le_of_ble_eq_true rfl, Nat.le_of_ble_eq_true rfl⟩ rfl hl.1 rfl (Nat.le_of_ble_eq_true rfl) dX12_longest_2 ⟨Nat.zero_le _, Nat.zero_le _⟩) hB hA rfl (fun H locs hB => ?_)
  refine lv_if_ne (tgt := 14) hx hb dX12_longest_5 (by decide) (fun c_4 => ?_) (fun c_4 => ?_)
  · replace h := itn h c_4
    refine lv_iload_n hx hb dX12_longest_14 rfl (lv_at hl 2 rfl) ?_
    refine lv_iconst (v := 1) hx hb dX12_longest_15 (by decide) ?_
    refine lv_icmp_lt (tgt := 26) hx hb dX12_longest_16 (by decide) (fun c_5 => ?_) (fun c_5 => ?_)
    · replace h := itp h c_5
      exact hb_26 s_2 H locs ls h hB (lv_sub hl [0] rfl)
    · replace h := itn h c_5
      refine lv_iload_n hx hb dX12_longest_19 rfl (lv_at hl 2 rfl) ?_
      refine lv_sipush (v := 2000) hx hb dX12_longest_20 (by decide) ?_
      refine lv_icmp_le (tgt := 33) hx hb dX12_longest_23 (by decide) (fun c_9 => ?_) (fun c_9 => ?_)
      · replace h := itp h c_9
        refine lv_iconst (v := -1) hx hb dX12_longest_33 (by decide) ?_
        refine lv_istore_n (lv' := [(3, .int (-1 : Int32)), (0, .ref (gL g 40)), (1, .int a1), (2, .int a2)]) hx hb dX12_longest_34 rfl hl (by decide) rfl (fun ls hl => ?_)
        refine lv_iconst (v := -1) hx hb dX12_longest_35 (by decide) ?_
        refine lv_istore (lv' := [(4, .int (-1 : Int32)), (3, .int (-1 : Int32)), (0, .ref (gL g 40)), (1, .int a1), (2, .int a2)]) hx hb dX12_longest_36 hl (by decide) rfl (fun ls hl => ?_)
        refine lv_iconst (v := 0) hx hb dX12_longest_38 (by decide) ?_
        refine lv_istore (lv' := [(5, .int (0 : Int32)), (4, .int (-1 : Int32)), (3, .int (-1 : Int32)), (0, .ref (gL g 40)), (1, .int a1), (2, .int a2)]) hx hb dX12_longest_39 hl (by decide) rfl (fun ls hl => ?_)
        exact hL_41 a1 a2 fuel (-1 : Int32) (-1 : Int32) (0 : Int32) s_2 H locs ls h hB (lv_sub hl [3, 4, 5, 2, 1, 0] rfl)
      · replace h := itn h c_9
        exact hb_26 s_2 H locs ls h hB (lv_sub hl [0] rfl)
  · replace h := itp h c_4
    refine lv_aload_n hx hb dX12_longest_8 rfl (lv_at hl 0 rfl) ?_
    refine lv_iconst (v := -1) hx hb dX12_longest_9 (by decide) ?_
    replace h := b2_eq h; obtain ⟨r_15, s_16, hc_17, h⟩ := h
    refine R_call (rest := []) [.int r_15] (R_runV (n := 1) (As := [.int (-1 : Int32)]) ⟨hx, hb, hml, hown, ht⟩ (fun _ h9 => h9) hK hZ hA hB (c_X12_noTen l g P s_2 (-1 : Int32) H.size hc_17) (R_recv hK hB (by decide) (cell_8 rfl) rfl) tw1209 tw1206 tw1208 pw49 tw5 ⟨by decide, by decide, by decide⟩ rfl rfl ⟨Nat.le_of_ble_eq_true rfl, Nat.le_of_ble_eq_true rfl⟩ rfl hl.1 rfl (Nat.le_of_ble_eq_true rfl) dX12_longest_10 ⟨Nat.zero_le _, Nat.zero_le _⟩) hB hA rfl (fun H locs hB => ?_)
    obtain ⟨rfl, rfl⟩ := Prod.mk.inj (Option.some.inj h)
    exact W.iret hx hb hr (R_end hB) hB.2.2.2.2 dX12_longest_13
def f_X12_many_b46 (σ1 : Hp) : Option (Int32 × Hp) := b2 (f_X12_no (-6 : Int32) σ1) (fun r_6 s_7 => some (r_6, s_7))
def f_X12_many_b86 (x1 : Int32) (x2 : Int32) (x3 : Int32) (x4 : Int32) (x5 : Int32) (x6 : Int32) (σ1 : Hp) : Option ((Int32 × Int32 × Hp) ⊕ (Int32 × Hp)) := some (.inl (x5, (x6 + 1), σ1))
def f_X12_many_t59 (x1 : Int32) (x2 : Int32) (x3 : Int32) (x4 : Int32) (x5 : Int32) (x6 : Int32) (σ1 : Hp) : Option ((Int32 × Int32 × Hp) ⊕ (Int32 × Hp)) := if (x3 - x2) < x6 then ex (some (x5, σ1)) else b2 (f_X12_goesOf x1 (x2.toInt64 + x6.toInt64) σ1) (fun r_14 s_15 => if r_14 = x4 then f_X12_many_b86 x1 x2 x3 x4 (x5 + 1) x6 s_15 else f_X12_many_b86 x1 x2 x3 x4 x5 x6 s_15)
def f_X12_many_s59 (x1 : Int32) (x2 : Int32) (x3 : Int32) (x4 : Int32) (v : (Int32 × Int32 × Hp)) : Option ((Int32 × Int32 × Hp) ⊕ (Int32 × Hp)) := f_X12_many_t59 x1 x2 x3 x4 v.1 v.2.1 v.2.2
def f_X12_many (a1 : Int32) (a2 : Int32) (a3 : Int32) (a4 : Int32) (σ : Hp) : Option (Int32 × Hp) := b2 (f_X12_isLaw a1 σ) (fun r_1 s_2 => if r_1 = 0 then b2 (f_X12_no (-1 : Int32) s_2) (fun r_18 s_19 => some (r_18, s_19)) else if a2 < 0 then f_X12_many_b46 s_2 else if a3 < a2 then f_X12_many_b46 s_2 else if (1999 : Int32) < (a3 - a2) then f_X12_many_b46 s_2 else if a4 < (-1 : Int32) then f_X12_many_b46 s_2 else if a4 ≤ (200 : Int32) then iter (f_X12_many_s59 a1 a2 a3 a4) fuel ((0 : Int32), (0 : Int32), s_2) else f_X12_many_b46 s_2)
set_option maxHeartbeats 4000000 in
set_option maxRecDepth 100000 in
theorem c_X12_many (l : Launch) (g : tG) (P : Nat → Nat) (σ : Hp) (a1 : Int32) (a2 : Int32) (a3 : Int32) (a4 : Int32) (sz : Nat) {r : Int32} {τ : Hp} (h : f_X12_many a1 a2 a3 a4 σ = some (r, τ)) : Met l yX12_many (Cond.code yX12_many cX12_many 7 (some .int) :: tblG) ({ frames := 4, cells := 0, slots := 0, locals := 106 }) (va_Pc [.ref (gL g 40), .int a1, .int a2, .int a3, .int a4] (tPre g P σ sz)) (tQ (some (.int r)) (tPost g P τ (va_A (wC g P σ) sz)) (va_A (wC g P σ) sz)) 0 0 (va_A (wC g P σ) sz) := by
  refine T_start (B := fun A => tPost g P τ A) (by decide) (Nat.le_of_ble_eq_true rfl) ?_
  intro p e s m args below meth c ls0 A hx hb hml hr hown hlocks ht hnm hK hZ hA hB0 hl0
  have hb_46 : ∀ (σ1 : Hp) (H : Heap) (locs : List Loc) (ls : Array Slot), f_X12_many_b46 σ1 = some (r, τ) → tB g P σ1 A s.heap H locs → lv_has ls 7 [(0, .ref (gL g 40))] → WQ p l e { frames := 4, cells := 0, slots := 0, locals := 106 } s m args below meth c g P A (some (.int r)) τ H locs (F0 m 46 ls []) := by
    intro σ1 H locs ls h hB hl
    unfold f_X12_many_b46 at h
    refine lv_aload_n hx hb dX12_many_46 rfl (lv_at hl 0 rfl) ?_
    refine lv_bipush (v := -6) hx hb dX12_many_47 (by decide) ?_
    replace h := b2_eq h; obtain ⟨r_6, s_7, hc_8, h⟩ := h
    refine R_call (rest := []) [.int r_6] (R_runV (n := 1) (As := [.int (-6 : Int32)]) ⟨hx, hb, hml, hown, ht⟩ (fun _ h9 => h9) hK hZ hA hB (c_X12_no l g P σ1 (-6 : Int32) H.size hc_8) (R_recv hK hB (by decide) (cell_8 rfl) rfl) tw1042 tw1039 tw1041 pw26 tw5 ⟨by decide, by decide, by decide⟩ rfl rfl ⟨Nat.le_of_ble_eq_true rfl, Nat.le_of_ble_eq_true rfl⟩ rfl hl.1 rfl (Nat.le_of_ble_eq_true rfl) dX12_many_49 ⟨Nat.zero_le _, Nat.zero_le _⟩) hB hA rfl (fun H locs hB => ?_)
    obtain ⟨rfl, rfl⟩ := Prod.mk.inj (Option.some.inj h)
    exact W.iret hx hb hr (R_end hB) hB.2.2.2.2 dX12_many_52
  have hL_59 : ∀ (x1 : Int32) (x2 : Int32) (x3 : Int32) (x4 : Int32) (n : Nat) (x5 : Int32) (x6 : Int32) (σ1 : Hp) (H : Heap) (locs : List Loc) (ls : Array Slot), iter (f_X12_many_s59 x1 x2 x3 x4) n (x5, x6, σ1) = some (r, τ) → tB g P σ1 A s.heap H locs → lv_has ls 7 [(0, .ref (gL g 40)), (1, .int x1), (2, .int x2), (3, .int x3), (4, .int x4), (5, .int x5), (6, .int x6)] → WQ p l e { frames := 4, cells := 0, slots := 0, locals := 106 } s m args below meth c g P A (some (.int r)) τ H locs (F0 m 59 ls []) := by
    intro x1 x2 x3 x4 n
    induction n with
    | zero =>
      intro x5 x6 σ1 H locs ls h hB hl
      exact (iter_0 h).elim
    | succ n ih1 =>
      intro x5 x6 σ1 H locs ls h hB hl
      replace h := iter_eq h; obtain ⟨z1, hh1, hx1⟩ := h
      have hb_86 : ∀ (x5 : Int32) (x6 : Int32) (σ1 : Hp) (H : Heap) (locs : List Loc) (ls : Array Slot), f_X12_many_b86 x1 x2 x3 x4 x5 x6 σ1 = some z1 → tB g P σ1 A s.heap H locs → lv_has ls 7 [(0, .ref (gL g 40)), (1, .int x1), (2, .int x2), (3, .int x3), (4, .int x4), (5, .int x5), (6, .int x6)] → WQ p l e { frames := 4, cells := 0, slots := 0, locals := 106 } s m args below meth c g P A (some (.int r)) τ H locs (F0 m 86 ls []) := by
        intro x5 x6 σ1 H locs ls h hB hl
        unfold f_X12_many_b86 at h
        refine lv_iinc (v := x6 + 1) (lv' := [(6, .int (x6 + 1)), (0, .ref (gL g 40)), (1, .int x1), (2, .int x2), (3, .int x3), (4, .int x4), (5, .int x5)]) hx hb dX12_many_86 hl (k := 6) rfl rfl (by decide) rfl (fun ls hl => ?_)
        refine lv_goto (tgt := 59) hx hb dX12_many_89 (by decide) ?_
        obtain rfl := Option.some.inj h
        exact ih1 x5 (x6 + 1) σ1 H locs ls hx1 hB (lv_sub hl [1, 2, 3, 4, 5, 6, 0] rfl)
      have h : f_X12_many_t59 x1 x2 x3 x4 x5 x6 σ1 = some z1 := hh1
      clear hh1
      unfold f_X12_many_t59 at h
      refine lv_iload hx hb dX12_many_59 (lv_at hl 6 rfl) ?_
      refine lv_iload_n hx hb dX12_many_61 rfl (lv_at hl 3 rfl) ?_
      refine lv_iload_n hx hb dX12_many_62 rfl (lv_at hl 2 rfl) ?_
      refine lv_isub hx hb dX12_many_63 ?_
      refine lv_icmp_gt (tgt := 92) hx hb dX12_many_64 (by decide) (fun c_13 => ?_) (fun c_13 => ?_)
      · replace h := itp h c_13
        replace h := ex_eq h; obtain ⟨b1, h, hz1⟩ := h
        subst hz1
        have hz1 := (itk_inr hx1).symm
        subst hz1
        refine lv_iload hx hb dX12_many_92 (lv_at hl 5 rfl) ?_
        obtain ⟨rfl, rfl⟩ := Prod.mk.inj (Option.some.inj h)
        exact W.iret hx hb hr (R_end hB) hB.2.2.2.2 dX12_many_94
      · replace h := itn h c_13
        refine lv_aload_n hx hb dX12_many_67 rfl (lv_at hl 0 rfl) ?_
        refine lv_iload_n hx hb dX12_many_68 rfl (lv_at hl 1 rfl) ?_
        refine lv_iload_n hx hb dX12_many_69 rfl (lv_at hl 2 rfl) ?_
        refine lv_i2l (v := x2.toInt64) hx hb dX12_many_70 rfl ?_
        refine lv_iload hx hb dX12_many_71 (lv_at hl 6 rfl) ?_
        refine lv_i2l (v := x6.toInt64) hx hb dX12_many_73 rfl ?_
        refine lv_ladd hx hb dX12_many_74 ?_
        replace h := b2_eq h; obtain ⟨r_14, s_15, hc_16, h⟩ := h
        refine R_call (rest := []) [.int r_14] (R_runV (n := 2) (As := [.int x1, .long (x2.toInt64 + x6.toInt64)]) ⟨hx, hb, hml, hown, ht⟩ (fun _ h9 => h9) hK hZ hA hB (c_X12_goesOf l g P σ1 x1 (x2.toInt64 + x6.toInt64) H.size hc_16) (R_recv hK hB (by decide) (cell_8 rfl) rfl) tw1213 tw1210 tw1212 pw50 tw5 ⟨by decide, by decide, by decide⟩ rfl rfl ⟨Nat.le_of_ble_eq_true rfl, Nat.le_of_ble_eq_true rfl⟩ rfl hl.1 rfl (Nat.le_of_ble_eq_true rfl) dX12_many_75 ⟨Nat.zero_le _, Nat.zero_le _⟩) hB hA rfl (fun H locs hB => ?_)
        refine lv_iload hx hb dX12_many_78 (lv_at hl 4 rfl) ?_
        refine lv_icmp_ne (tgt := 86) hx hb dX12_many_80 (by decide) (fun c_17 => ?_) (fun c_17 => ?_)
        · replace h := itn h c_17
          exact hb_86 x5 x6 s_15 H locs ls h hB (lv_sub hl [0, 1, 2, 3, 4, 5, 6] rfl)
        · replace h := itp h c_17
          refine lv_iinc (v := x5 + 1) (lv' := [(5, .int (x5 + 1)), (0, .ref (gL g 40)), (1, .int x1), (2, .int x2), (3, .int x3), (4, .int x4), (6, .int x6)]) hx hb dX12_many_83 hl (k := 5) rfl rfl (by decide) rfl (fun ls hl => ?_)
          exact hb_86 (x5 + 1) x6 s_15 H locs ls h hB (lv_sub hl [1, 2, 3, 4, 5, 0, 6] rfl)
  suffices hmain : ∀ (H : Heap) (locs : List Loc) (ls : Array Slot), tB g P σ A s.heap H locs → lv_has ls 7 [(0, .ref (gL g 40)), (1, .int a1), (2, .int a2), (3, .int a3), (4, .int a4)] → WQ p l e { frames := 4, cells := 0, slots := 0, locals := 106 } s m args below meth c g P A (some (.int r)) τ H locs (F0 m 0 ls []) from hmain _ _ ls0 hB0 hl0
  intro H locs ls hB hl
  unfold f_X12_many at h
  refine lv_aload_n hx hb dX12_many_0 rfl (lv_at hl 0 rfl) ?_
  refine lv_iload_n hx hb dX12_many_1 rfl (lv_at hl 1 rfl) ?_
  replace h := b2_eq h; obtain ⟨r_1, s_2, hc_3, h⟩ := h
  refine R_call (rest := []) [.int r_1] (R_runV (n := 1) (As := [.int a1]) ⟨hx, hb, hml, hown, ht⟩ (fun _ h9 => h9) hK hZ hA hB (c_X12_isLaw l g P σ a1 H.size hc_3) (R_recv hK hB (by decide) (cell_8 rfl) rfl) tw1062 tw1059 tw1061 pw27 tw5 ⟨by decide, by decide, by decide⟩ rfl rfl ⟨Nat.le_of_ble_eq_true rfl, Nat.le_of_ble_eq_true rfl⟩ rfl hl.1 rfl (Nat.le_of_ble_eq_true rfl) dX12_many_2 ⟨Nat.zero_le _, Nat.zero_le _⟩) hB hA rfl (fun H locs hB => ?_)
  refine lv_if_ne (tgt := 14) hx hb dX12_many_5 (by decide) (fun c_4 => ?_) (fun c_4 => ?_)
  · replace h := itn h c_4
    refine lv_iload_n hx hb dX12_many_14 rfl (lv_at hl 2 rfl) ?_
    refine lv_if_lt (tgt := 46) hx hb dX12_many_15 (by decide) (fun c_5 => ?_) (fun c_5 => ?_)
    · replace h := itp h c_5
      exact hb_46 s_2 H locs ls h hB (lv_sub hl [0] rfl)
    · replace h := itn h c_5
      refine lv_iload_n hx hb dX12_many_18 rfl (lv_at hl 3 rfl) ?_
      refine lv_iload_n hx hb dX12_many_19 rfl (lv_at hl 2 rfl) ?_
      refine lv_icmp_lt (tgt := 46) hx hb dX12_many_20 (by decide) (fun c_9 => ?_) (fun c_9 => ?_)
      · replace h := itp h c_9
        exact hb_46 s_2 H locs ls h hB (lv_sub hl [0] rfl)
      · replace h := itn h c_9
        refine lv_iload_n hx hb dX12_many_23 rfl (lv_at hl 3 rfl) ?_
        refine lv_iload_n hx hb dX12_many_24 rfl (lv_at hl 2 rfl) ?_
        refine lv_isub hx hb dX12_many_25 ?_
        refine lv_sipush (v := 1999) hx hb dX12_many_26 (by decide) ?_
        refine lv_icmp_gt (tgt := 46) hx hb dX12_many_29 (by decide) (fun c_10 => ?_) (fun c_10 => ?_)
        · replace h := itp h c_10
          exact hb_46 s_2 H locs ls h hB (lv_sub hl [0] rfl)
        · replace h := itn h c_10
          refine lv_iload hx hb dX12_many_32 (lv_at hl 4 rfl) ?_
          refine lv_iconst (v := -1) hx hb dX12_many_34 (by decide) ?_
          refine lv_icmp_lt (tgt := 46) hx hb dX12_many_35 (by decide) (fun c_11 => ?_) (fun c_11 => ?_)
          · replace h := itp h c_11
            exact hb_46 s_2 H locs ls h hB (lv_sub hl [0] rfl)
          · replace h := itn h c_11
            refine lv_iload hx hb dX12_many_38 (lv_at hl 4 rfl) ?_
            refine lv_sipush (v := 200) hx hb dX12_many_40 (by decide) ?_
            refine lv_icmp_le (tgt := 53) hx hb dX12_many_43 (by decide) (fun c_12 => ?_) (fun c_12 => ?_)
            · replace h := itp h c_12
              refine lv_iconst (v := 0) hx hb dX12_many_53 (by decide) ?_
              refine lv_istore (lv' := [(5, .int (0 : Int32)), (0, .ref (gL g 40)), (1, .int a1), (2, .int a2), (3, .int a3), (4, .int a4)]) hx hb dX12_many_54 hl (by decide) rfl (fun ls hl => ?_)
              refine lv_iconst (v := 0) hx hb dX12_many_56 (by decide) ?_
              refine lv_istore (lv' := [(6, .int (0 : Int32)), (5, .int (0 : Int32)), (0, .ref (gL g 40)), (1, .int a1), (2, .int a2), (3, .int a3), (4, .int a4)]) hx hb dX12_many_57 hl (by decide) rfl (fun ls hl => ?_)
              exact hL_59 a1 a2 a3 a4 fuel (0 : Int32) (0 : Int32) s_2 H locs ls h hB (lv_sub hl [2, 3, 4, 5, 6, 1, 0] rfl)
            · replace h := itn h c_12
              exact hb_46 s_2 H locs ls h hB (lv_sub hl [0] rfl)
  · replace h := itp h c_4
    refine lv_aload_n hx hb dX12_many_8 rfl (lv_at hl 0 rfl) ?_
    refine lv_iconst (v := -1) hx hb dX12_many_9 (by decide) ?_
    replace h := b2_eq h; obtain ⟨r_18, s_19, hc_20, h⟩ := h
    refine R_call (rest := []) [.int r_18] (R_runV (n := 1) (As := [.int (-1 : Int32)]) ⟨hx, hb, hml, hown, ht⟩ (fun _ h9 => h9) hK hZ hA hB (c_X12_no l g P s_2 (-1 : Int32) H.size hc_20) (R_recv hK hB (by decide) (cell_8 rfl) rfl) tw1042 tw1039 tw1041 pw26 tw5 ⟨by decide, by decide, by decide⟩ rfl rfl ⟨Nat.le_of_ble_eq_true rfl, Nat.le_of_ble_eq_true rfl⟩ rfl hl.1 rfl (Nat.le_of_ble_eq_true rfl) dX12_many_10 ⟨Nat.zero_le _, Nat.zero_le _⟩) hB hA rfl (fun H locs hB => ?_)
    obtain ⟨rfl, rfl⟩ := Prod.mk.inj (Option.some.inj h)
    exact W.iret hx hb hr (R_end hB) hB.2.2.2.2 dX12_many_13
def f_X12_rounds_b26 (σ1 : Hp) : Option (Int32 × Hp) := b2 (f_X12_no (-6 : Int32) σ1) (fun r_6 s_7 => some (r_6, s_7))
def f_X12_rounds_b129 (x1 : Int32) (x2 : Int32) (x3 : Int32) (x4 : Int32) (σ1 : Hp) : Option ((Int32 × Int32 × Hp) ⊕ (Int32 × Hp)) := some (.inl (x3, (x4 + 1), σ1))
def f_X12_rounds_b110 (x1 : Int32) (x2 : Int32) (x3 : Int32) (x4 : Int32) (x5 : Int64) (x7 : Int32) (σ1 : Hp) : Option ((Int32 × Int32 × Hp) ⊕ (Int32 × Hp)) := if x7 = 0 then f_X12_rounds_b129 x1 x2 x3 x4 σ1 else ck (inb x3 500 = true) (f_X12_rounds_b129 x1 x2 (x3 + 1) x4 (sJ σ1 74 x3.toNatClampNeg x5))
def f_X12_rounds_b102 (x1 : Int32) (x2 : Int32) (x3 : Int32) (x4 : Int32) (x5 : Int64) (x8 : Int32) (xt0 : Int32) (σ1 : Hp) : Option ((Int32 × Int32 × Hp) ⊕ ((Int32 × Int32 × Hp) ⊕ (Int32 × Hp))) := some (.inl (xt0, (x8 + 1), σ1))
def f_X12_rounds_t73 (x1 : Int32) (x2 : Int32) (x3 : Int32) (x4 : Int32) (x5 : Int64) (x7 : Int32) (x8 : Int32) (σ1 : Hp) : Option ((Int32 × Int32 × Hp) ⊕ ((Int32 × Int32 × Hp) ⊕ (Int32 × Hp))) := if x3 ≤ x8 then ex (f_X12_rounds_b110 x1 x2 x3 x4 x5 x7 σ1) else if x7 = 0 then ex (f_X12_rounds_b110 x1 x2 x3 x4 x5 x7 σ1) else ck (inb x8 500 = true) (if (lg_cmp (hJ σ1 74 x8.toNatClampNeg) x5) = 0 then f_X12_rounds_b102 x1 x2 x3 x4 x5 x8 (0 : Int32) σ1 else f_X12_rounds_b102 x1 x2 x3 x4 x5 x8 (1 : Int32) σ1)
def f_X12_rounds_s73 (x1 : Int32) (x2 : Int32) (x3 : Int32) (x4 : Int32) (x5 : Int64) (v : (Int32 × Int32 × Hp)) : Option ((Int32 × Int32 × Hp) ⊕ ((Int32 × Int32 × Hp) ⊕ (Int32 × Hp))) := f_X12_rounds_t73 x1 x2 x3 x4 x5 v.1 v.2.1 v.2.2
def f_X12_rounds_b68 (x1 : Int32) (x2 : Int32) (x3 : Int32) (x4 : Int32) (x5 : Int64) (xt0 : Int32) (σ1 : Hp) : Option ((Int32 × Int32 × Hp) ⊕ (Int32 × Hp)) := iter (f_X12_rounds_s73 x1 x2 x3 x4 x5) fuel (xt0, (0 : Int32), σ1)
def f_X12_rounds_t38 (x1 : Int32) (x2 : Int32) (x3 : Int32) (x4 : Int32) (σ1 : Hp) : Option ((Int32 × Int32 × Hp) ⊕ (Int32 × Hp)) := if x2 ≤ x4 then ex (some (x3, σ1)) else b2 (f_X12_roundOf x1 x4.toInt64 σ1) (fun r_11 s_12 => if (lg_cmp r_11 (-1 : Int64)) = 0 then f_X12_rounds_b68 x1 x2 x3 x4 r_11 (0 : Int32) s_12 else f_X12_rounds_b68 x1 x2 x3 x4 r_11 (1 : Int32) s_12)
def f_X12_rounds_s38 (x1 : Int32) (x2 : Int32) (v : (Int32 × Int32 × Hp)) : Option ((Int32 × Int32 × Hp) ⊕ (Int32 × Hp)) := f_X12_rounds_t38 x1 x2 v.1 v.2.1 v.2.2
def f_X12_rounds (a1 : Int32) (a2 : Int32) (σ : Hp) : Option (Int32 × Hp) := b2 (f_X12_isLaw a1 σ) (fun r_1 s_2 => if r_1 = 0 then b2 (f_X12_no (-1 : Int32) s_2) (fun r_21 s_22 => some (r_21, s_22)) else if a2 < (1 : Int32) then f_X12_rounds_b26 s_2 else if a2 ≤ (500 : Int32) then iter (f_X12_rounds_s38 a1 a2) fuel ((0 : Int32), (0 : Int32), s_2) else f_X12_rounds_b26 s_2)
set_option maxHeartbeats 4000000 in
set_option maxRecDepth 100000 in
theorem c_X12_rounds (l : Launch) (g : tG) (P : Nat → Nat) (σ : Hp) (a1 : Int32) (a2 : Int32) (sz : Nat) {r : Int32} {τ : Hp} (h : f_X12_rounds a1 a2 σ = some (r, τ)) : Met l yX12_rounds (Cond.code yX12_rounds cX12_rounds 9 (some .int) :: tblG) ({ frames := 4, cells := 0, slots := 0, locals := 110 }) (va_Pc [.ref (gL g 40), .int a1, .int a2] (tPre g P σ sz)) (tQ (some (.int r)) (tPost g P τ (va_A (wC g P σ) sz)) (va_A (wC g P σ) sz)) 0 0 (va_A (wC g P σ) sz) := by
  refine T_start (B := fun A => tPost g P τ A) (by decide) (Nat.le_of_ble_eq_true rfl) ?_
  intro p e s m args below meth c ls0 A hx hb hml hr hown hlocks ht hnm hK hZ hA hB0 hl0
  have hb_26 : ∀ (σ1 : Hp) (H : Heap) (locs : List Loc) (ls : Array Slot), f_X12_rounds_b26 σ1 = some (r, τ) → tB g P σ1 A s.heap H locs → lv_has ls 9 [(0, .ref (gL g 40))] → WQ p l e { frames := 4, cells := 0, slots := 0, locals := 110 } s m args below meth c g P A (some (.int r)) τ H locs (F0 m 26 ls []) := by
    intro σ1 H locs ls h hB hl
    unfold f_X12_rounds_b26 at h
    refine lv_aload_n hx hb dX12_rounds_26 rfl (lv_at hl 0 rfl) ?_
    refine lv_bipush (v := -6) hx hb dX12_rounds_27 (by decide) ?_
    replace h := b2_eq h; obtain ⟨r_6, s_7, hc_8, h⟩ := h
    refine R_call (rest := []) [.int r_6] (R_runV (n := 1) (As := [.int (-6 : Int32)]) ⟨hx, hb, hml, hown, ht⟩ (fun _ h9 => h9) hK hZ hA hB (c_X12_no l g P σ1 (-6 : Int32) H.size hc_8) (R_recv hK hB (by decide) (cell_8 rfl) rfl) tw1042 tw1039 tw1041 pw26 tw5 ⟨by decide, by decide, by decide⟩ rfl rfl ⟨Nat.le_of_ble_eq_true rfl, Nat.le_of_ble_eq_true rfl⟩ rfl hl.1 rfl (Nat.le_of_ble_eq_true rfl) dX12_rounds_29 ⟨Nat.zero_le _, Nat.zero_le _⟩) hB hA rfl (fun H locs hB => ?_)
    obtain ⟨rfl, rfl⟩ := Prod.mk.inj (Option.some.inj h)
    exact W.iret hx hb hr (R_end hB) hB.2.2.2.2 dX12_rounds_32
  have hL_38 : ∀ (x1 : Int32) (x2 : Int32) (n : Nat) (x3 : Int32) (x4 : Int32) (σ1 : Hp) (H : Heap) (locs : List Loc) (ls : Array Slot), iter (f_X12_rounds_s38 x1 x2) n (x3, x4, σ1) = some (r, τ) → tB g P σ1 A s.heap H locs → lv_has ls 9 [(0, .ref (gL g 40)), (1, .int x1), (2, .int x2), (3, .int x3), (4, .int x4)] → WQ p l e { frames := 4, cells := 0, slots := 0, locals := 110 } s m args below meth c g P A (some (.int r)) τ H locs (F0 m 38 ls []) := by
    intro x1 x2 n
    induction n with
    | zero =>
      intro x3 x4 σ1 H locs ls h hB hl
      exact (iter_0 h).elim
    | succ n ih1 =>
      intro x3 x4 σ1 H locs ls h hB hl
      replace h := iter_eq h; obtain ⟨z1, hh1, hx1⟩ := h
      have hb_129 : ∀ (x3 : Int32) (x4 : Int32) (σ1 : Hp) (H : Heap) (locs : List Loc) (ls : Array Slot), f_X12_rounds_b129 x1 x2 x3 x4 σ1 = some z1 → tB g P σ1 A s.heap H locs → lv_has ls 9 [(0, .ref (gL g 40)), (1, .int x1), (2, .int x2), (3, .int x3), (4, .int x4)] → WQ p l e { frames := 4, cells := 0, slots := 0, locals := 110 } s m args below meth c g P A (some (.int r)) τ H locs (F0 m 129 ls []) := by
        intro x3 x4 σ1 H locs ls h hB hl
        unfold f_X12_rounds_b129 at h
        refine lv_iinc (v := x4 + 1) (lv' := [(4, .int (x4 + 1)), (0, .ref (gL g 40)), (1, .int x1), (2, .int x2), (3, .int x3)]) hx hb dX12_rounds_129 hl (k := 4) rfl rfl (by decide) rfl (fun ls hl => ?_)
        refine lv_goto (tgt := 38) hx hb dX12_rounds_132 (by decide) ?_
        obtain rfl := Option.some.inj h
        exact ih1 x3 (x4 + 1) σ1 H locs ls hx1 hB (lv_sub hl [1, 2, 3, 4, 0] rfl)
      have hb_110 : ∀ (x3 : Int32) (x4 : Int32) (x5 : Int64) (x7 : Int32) (σ1 : Hp) (H : Heap) (locs : List Loc) (ls : Array Slot), f_X12_rounds_b110 x1 x2 x3 x4 x5 x7 σ1 = some z1 → tB g P σ1 A s.heap H locs → lv_has ls 9 [(0, .ref (gL g 40)), (1, .int x1), (2, .int x2), (3, .int x3), (4, .int x4), (5, .long x5), (7, .int x7)] → WQ p l e { frames := 4, cells := 0, slots := 0, locals := 110 } s m args below meth c g P A (some (.int r)) τ H locs (F0 m 110 ls []) := by
        intro x3 x4 x5 x7 σ1 H locs ls h hB hl
        unfold f_X12_rounds_b110 at h
        refine lv_iload hx hb dX12_rounds_110 (lv_at hl 6 rfl) ?_
        refine lv_if_ne (tgt := 118) hx hb dX12_rounds_112 (by decide) (fun c_16 => ?_) (fun c_16 => ?_)
        · replace h := itn h c_16
          refine lv_aload_n hx hb dX12_rounds_118 rfl (lv_at hl 0 rfl) ?_
          refine R_get (v := .ref (gL g 74)) hx hb ht ui_X12 hown hK hB (by decide) (cell_8 rfl) rfl 34 (by decide) (ht _ tw950) (fun _ h9 => h9) rfl dX12_rounds_119 ?_
          refine lv_iload_n hx hb dX12_rounds_122 rfl (lv_at hl 3 rfl) ?_
          refine lv_lload hx hb dX12_rounds_123 (lv_at hl 5 rfl) ?_
          replace h := ck_eq h; obtain ⟨q_17, h⟩ := h
          refine R_last hx hb hK hB rfl (inb_eq q_17) dX12_rounds_125 (fun H locs hB => ?_)
          refine lv_iinc (v := x3 + 1) (lv' := [(3, .int (x3 + 1)), (0, .ref (gL g 40)), (1, .int x1), (2, .int x2), (4, .int x4), (5, .long x5), (7, .int x7)]) hx hb dX12_rounds_126 hl (k := 3) rfl rfl (by decide) rfl (fun ls hl => ?_)
          exact hb_129 (x3 + 1) x4 (sJ σ1 74 x3.toNatClampNeg x5) H locs ls h hB (lv_sub hl [1, 2, 3, 0, 4] rfl)
        · replace h := itp h c_16
          refine lv_goto (tgt := 129) hx hb dX12_rounds_115 (by decide) ?_
          exact hb_129 x3 x4 σ1 H locs ls h hB (lv_sub hl [0, 1, 2, 3, 4] rfl)
      have hL_73 : ∀ (x3 : Int32) (x4 : Int32) (x5 : Int64) (n : Nat) (x7 : Int32) (x8 : Int32) (σ1 : Hp) (H : Heap) (locs : List Loc) (ls : Array Slot), iter (f_X12_rounds_s73 x1 x2 x3 x4 x5) n (x7, x8, σ1) = some z1 → tB g P σ1 A s.heap H locs → lv_has ls 9 [(0, .ref (gL g 40)), (1, .int x1), (2, .int x2), (3, .int x3), (4, .int x4), (5, .long x5), (7, .int x7), (8, .int x8)] → WQ p l e { frames := 4, cells := 0, slots := 0, locals := 110 } s m args below meth c g P A (some (.int r)) τ H locs (F0 m 73 ls []) := by
        intro x3 x4 x5 n
        induction n with
        | zero =>
          intro x7 x8 σ1 H locs ls h hB hl
          exact (iter_0 h).elim
        | succ n ih2 =>
          intro x7 x8 σ1 H locs ls h hB hl
          replace h := iter_eq h; obtain ⟨z2, hh2, hx2⟩ := h
          have hb_102 : ∀ (x8 : Int32) (xt0 : Int32) (σ1 : Hp) (H : Heap) (locs : List Loc) (ls : Array Slot), f_X12_rounds_b102 x1 x2 x3 x4 x5 x8 xt0 σ1 = some z2 → tB g P σ1 A s.heap H locs → lv_has ls 9 [(0, .ref (gL g 40)), (1, .int x1), (2, .int x2), (3, .int x3), (4, .int x4), (5, .long x5), (8, .int x8)] → WQ p l e { frames := 4, cells := 0, slots := 0, locals := 110 } s m args below meth c g P A (some (.int r)) τ H locs (F0 m 102 ls [.int xt0]) := by
            intro x8 xt0 σ1 H locs ls h hB hl
            unfold f_X12_rounds_b102 at h
            refine lv_istore (lv' := [(7, .int xt0), (0, .ref (gL g 40)), (1, .int x1), (2, .int x2), (3, .int x3), (4, .int x4), (5, .long x5), (8, .int x8)]) hx hb dX12_rounds_102 hl (by decide) rfl (fun ls hl => ?_)
            refine lv_iinc (v := x8 + 1) (lv' := [(8, .int (x8 + 1)), (7, .int xt0), (0, .ref (gL g 40)), (1, .int x1), (2, .int x2), (3, .int x3), (4, .int x4), (5, .long x5)]) hx hb dX12_rounds_104 hl (k := 7) rfl rfl (by decide) rfl (fun ls hl => ?_)
            refine lv_goto (tgt := 73) hx hb dX12_rounds_107 (by decide) ?_
            obtain rfl := Option.some.inj h
            exact ih2 xt0 (x8 + 1) σ1 H locs ls hx2 hB (lv_sub hl [2, 3, 4, 5, 6, 7, 1, 0] rfl)
          have h : f_X12_rounds_t73 x1 x2 x3 x4 x5 x7 x8 σ1 = some z2 := hh2
          clear hh2
          unfold f_X12_rounds_t73 at h
          refine lv_iload hx hb dX12_rounds_73 (lv_at hl 7 rfl) ?_
          refine lv_iload_n hx hb dX12_rounds_75 rfl (lv_at hl 3 rfl) ?_
          refine lv_icmp_ge (tgt := 110) hx hb dX12_rounds_76 (by decide) (fun c_15 => ?_) (fun c_15 => ?_)
          · replace h := itp h c_15
            replace h := ex_eq h; obtain ⟨b2, h, hz2⟩ := h
            subst hz2
            have hz2 := (itk_inr hx2).symm
            subst hz2
            exact hb_110 x3 x4 x5 x7 σ1 H locs ls h hB (lv_sub hl [0, 1, 2, 3, 4, 5, 6] rfl)
          · replace h := itn h c_15
            refine lv_iload hx hb dX12_rounds_79 (lv_at hl 6 rfl) ?_
            refine lv_if_eq (tgt := 110) hx hb dX12_rounds_81 (by decide) (fun c_18 => ?_) (fun c_18 => ?_)
            · replace h := itp h c_18
              replace h := ex_eq h; obtain ⟨b2, h, hz2⟩ := h
              subst hz2
              have hz2 := (itk_inr hx2).symm
              subst hz2
              exact hb_110 x3 x4 x5 x7 σ1 H locs ls h hB (lv_sub hl [0, 1, 2, 3, 4, 5, 6] rfl)
            · replace h := itn h c_18
              refine lv_aload_n hx hb dX12_rounds_84 rfl (lv_at hl 0 rfl) ?_
              refine R_get (v := .ref (gL g 74)) hx hb ht ui_X12 hown hK hB (by decide) (cell_8 rfl) rfl 34 (by decide) (ht _ tw950) (fun _ h9 => h9) rfl dX12_rounds_85 ?_
              refine lv_iload hx hb dX12_rounds_88 (lv_at hl 7 rfl) ?_
              replace h := ck_eq h; obtain ⟨q_19, h⟩ := h
              refine R_lald hx hb hK hB rfl (inb_eq q_19) dX12_rounds_90 ?_
              refine lv_lload hx hb dX12_rounds_91 (lv_at hl 5 rfl) ?_
              refine W.lcmp hx hb dX12_rounds_93 ?_
              refine lv_if_eq (tgt := 101) hx hb dX12_rounds_94 (by decide) (fun c_20 => ?_) (fun c_20 => ?_)
              · replace h := itp h c_20
                refine lv_iconst (v := 0) hx hb dX12_rounds_101 (by decide) ?_
                exact hb_102 x8 (0 : Int32) σ1 H locs ls h hB (lv_sub hl [0, 1, 2, 3, 4, 5, 7] rfl)
              · replace h := itn h c_20
                refine lv_iconst (v := 1) hx hb dX12_rounds_97 (by decide) ?_
                refine lv_goto (tgt := 102) hx hb dX12_rounds_98 (by decide) ?_
                exact hb_102 x8 (1 : Int32) σ1 H locs ls h hB (lv_sub hl [0, 1, 2, 3, 4, 5, 7] rfl)
      have hb_68 : ∀ (x3 : Int32) (x4 : Int32) (x5 : Int64) (xt0 : Int32) (σ1 : Hp) (H : Heap) (locs : List Loc) (ls : Array Slot), f_X12_rounds_b68 x1 x2 x3 x4 x5 xt0 σ1 = some z1 → tB g P σ1 A s.heap H locs → lv_has ls 9 [(0, .ref (gL g 40)), (1, .int x1), (2, .int x2), (3, .int x3), (4, .int x4), (5, .long x5)] → WQ p l e { frames := 4, cells := 0, slots := 0, locals := 110 } s m args below meth c g P A (some (.int r)) τ H locs (F0 m 68 ls [.int xt0]) := by
        intro x3 x4 x5 xt0 σ1 H locs ls h hB hl
        unfold f_X12_rounds_b68 at h
        refine lv_istore (lv' := [(7, .int xt0), (0, .ref (gL g 40)), (1, .int x1), (2, .int x2), (3, .int x3), (4, .int x4), (5, .long x5)]) hx hb dX12_rounds_68 hl (by decide) rfl (fun ls hl => ?_)
        refine lv_iconst (v := 0) hx hb dX12_rounds_70 (by decide) ?_
        refine lv_istore (lv' := [(8, .int (0 : Int32)), (7, .int xt0), (0, .ref (gL g 40)), (1, .int x1), (2, .int x2), (3, .int x3), (4, .int x4), (5, .long x5)]) hx hb dX12_rounds_71 hl (by decide) rfl (fun ls hl => ?_)
        exact hL_73 x3 x4 x5 fuel xt0 (0 : Int32) σ1 H locs ls h hB (lv_sub hl [2, 3, 4, 5, 6, 7, 1, 0] rfl)
      have h : f_X12_rounds_t38 x1 x2 x3 x4 σ1 = some z1 := hh1
      clear hh1
      unfold f_X12_rounds_t38 at h
      refine lv_iload hx hb dX12_rounds_38 (lv_at hl 4 rfl) ?_
      refine lv_iload_n hx hb dX12_rounds_40 rfl (lv_at hl 2 rfl) ?_
      refine lv_icmp_ge (tgt := 135) hx hb dX12_rounds_41 (by decide) (fun c_10 => ?_) (fun c_10 => ?_)
      · replace h := itp h c_10
        replace h := ex_eq h; obtain ⟨b1, h, hz1⟩ := h
        subst hz1
        have hz1 := (itk_inr hx1).symm
        subst hz1
        refine lv_iload_n hx hb dX12_rounds_135 rfl (lv_at hl 3 rfl) ?_
        obtain ⟨rfl, rfl⟩ := Prod.mk.inj (Option.some.inj h)
        exact W.iret hx hb hr (R_end hB) hB.2.2.2.2 dX12_rounds_136
      · replace h := itn h c_10
        refine lv_aload_n hx hb dX12_rounds_44 rfl (lv_at hl 0 rfl) ?_
        refine lv_iload_n hx hb dX12_rounds_45 rfl (lv_at hl 1 rfl) ?_
        refine lv_iload hx hb dX12_rounds_46 (lv_at hl 4 rfl) ?_
        refine lv_i2l (v := x4.toInt64) hx hb dX12_rounds_48 rfl ?_
        replace h := b2_eq h; obtain ⟨r_11, s_12, hc_13, h⟩ := h
        refine R_call (rest := []) [.long r_11] (R_runV (n := 2) (As := [.int x1, .long x4.toInt64]) ⟨hx, hb, hml, hown, ht⟩ (fun _ h9 => h9) hK hZ hA hB (c_X12_roundOf l g P σ1 x1 x4.toInt64 H.size hc_13) (R_recv hK hB (by decide) (cell_8 rfl) rfl) tw1225 tw1222 tw1224 pw51 tw5 ⟨by decide, by decide, by decide⟩ rfl rfl ⟨Nat.le_of_ble_eq_true rfl, Nat.le_of_ble_eq_true rfl⟩ rfl hl.1 rfl (Nat.le_of_ble_eq_true rfl) dX12_rounds_49 ⟨Nat.zero_le _, Nat.zero_le _⟩) hB hA rfl (fun H locs hB => ?_)
        refine lv_lstore (lv' := [(5, .long r_11), (0, .ref (gL g 40)), (1, .int x1), (2, .int x2), (3, .int x3), (4, .int x4)]) hx hb dX12_rounds_52 hl (by decide) rfl (fun ls hl => ?_)
        refine lv_lload hx hb dX12_rounds_54 (lv_at hl 0 rfl) ?_
        refine lv_ldc2 (v := -1) hx hb hown (ht _ tw1089) dX12_rounds_56 ?_
        refine W.lcmp hx hb dX12_rounds_59 ?_
        refine lv_if_eq (tgt := 67) hx hb dX12_rounds_60 (by decide) (fun c_14 => ?_) (fun c_14 => ?_)
        · replace h := itp h c_14
          refine lv_iconst (v := 0) hx hb dX12_rounds_67 (by decide) ?_
          exact hb_68 x3 x4 r_11 (0 : Int32) s_12 H locs ls h hB (lv_sub hl [1, 2, 3, 4, 5, 0] rfl)
        · replace h := itn h c_14
          refine lv_iconst (v := 1) hx hb dX12_rounds_63 (by decide) ?_
          refine lv_goto (tgt := 68) hx hb dX12_rounds_64 (by decide) ?_
          exact hb_68 x3 x4 r_11 (1 : Int32) s_12 H locs ls h hB (lv_sub hl [1, 2, 3, 4, 5, 0] rfl)
  suffices hmain : ∀ (H : Heap) (locs : List Loc) (ls : Array Slot), tB g P σ A s.heap H locs → lv_has ls 9 [(0, .ref (gL g 40)), (1, .int a1), (2, .int a2)] → WQ p l e { frames := 4, cells := 0, slots := 0, locals := 110 } s m args below meth c g P A (some (.int r)) τ H locs (F0 m 0 ls []) from hmain _ _ ls0 hB0 hl0
  intro H locs ls hB hl
  unfold f_X12_rounds at h
  refine lv_aload_n hx hb dX12_rounds_0 rfl (lv_at hl 0 rfl) ?_
  refine lv_iload_n hx hb dX12_rounds_1 rfl (lv_at hl 1 rfl) ?_
  replace h := b2_eq h; obtain ⟨r_1, s_2, hc_3, h⟩ := h
  refine R_call (rest := []) [.int r_1] (R_runV (n := 1) (As := [.int a1]) ⟨hx, hb, hml, hown, ht⟩ (fun _ h9 => h9) hK hZ hA hB (c_X12_isLaw l g P σ a1 H.size hc_3) (R_recv hK hB (by decide) (cell_8 rfl) rfl) tw1062 tw1059 tw1061 pw27 tw5 ⟨by decide, by decide, by decide⟩ rfl rfl ⟨Nat.le_of_ble_eq_true rfl, Nat.le_of_ble_eq_true rfl⟩ rfl hl.1 rfl (Nat.le_of_ble_eq_true rfl) dX12_rounds_2 ⟨Nat.zero_le _, Nat.zero_le _⟩) hB hA rfl (fun H locs hB => ?_)
  refine lv_if_ne (tgt := 14) hx hb dX12_rounds_5 (by decide) (fun c_4 => ?_) (fun c_4 => ?_)
  · replace h := itn h c_4
    refine lv_iload_n hx hb dX12_rounds_14 rfl (lv_at hl 2 rfl) ?_
    refine lv_iconst (v := 1) hx hb dX12_rounds_15 (by decide) ?_
    refine lv_icmp_lt (tgt := 26) hx hb dX12_rounds_16 (by decide) (fun c_5 => ?_) (fun c_5 => ?_)
    · replace h := itp h c_5
      exact hb_26 s_2 H locs ls h hB (lv_sub hl [0] rfl)
    · replace h := itn h c_5
      refine lv_iload_n hx hb dX12_rounds_19 rfl (lv_at hl 2 rfl) ?_
      refine lv_sipush (v := 500) hx hb dX12_rounds_20 (by decide) ?_
      refine lv_icmp_le (tgt := 33) hx hb dX12_rounds_23 (by decide) (fun c_9 => ?_) (fun c_9 => ?_)
      · replace h := itp h c_9
        refine lv_iconst (v := 0) hx hb dX12_rounds_33 (by decide) ?_
        refine lv_istore_n (lv' := [(3, .int (0 : Int32)), (0, .ref (gL g 40)), (1, .int a1), (2, .int a2)]) hx hb dX12_rounds_34 rfl hl (by decide) rfl (fun ls hl => ?_)
        refine lv_iconst (v := 0) hx hb dX12_rounds_35 (by decide) ?_
        refine lv_istore (lv' := [(4, .int (0 : Int32)), (3, .int (0 : Int32)), (0, .ref (gL g 40)), (1, .int a1), (2, .int a2)]) hx hb dX12_rounds_36 hl (by decide) rfl (fun ls hl => ?_)
        exact hL_38 a1 a2 fuel (0 : Int32) (0 : Int32) s_2 H locs ls h hB (lv_sub hl [2, 3, 4, 1, 0] rfl)
      · replace h := itn h c_9
        exact hb_26 s_2 H locs ls h hB (lv_sub hl [0] rfl)
  · replace h := itp h c_4
    refine lv_aload_n hx hb dX12_rounds_8 rfl (lv_at hl 0 rfl) ?_
    refine lv_iconst (v := -1) hx hb dX12_rounds_9 (by decide) ?_
    replace h := b2_eq h; obtain ⟨r_21, s_22, hc_23, h⟩ := h
    refine R_call (rest := []) [.int r_21] (R_runV (n := 1) (As := [.int (-1 : Int32)]) ⟨hx, hb, hml, hown, ht⟩ (fun _ h9 => h9) hK hZ hA hB (c_X12_no l g P s_2 (-1 : Int32) H.size hc_23) (R_recv hK hB (by decide) (cell_8 rfl) rfl) tw1042 tw1039 tw1041 pw26 tw5 ⟨by decide, by decide, by decide⟩ rfl rfl ⟨Nat.le_of_ble_eq_true rfl, Nat.le_of_ble_eq_true rfl⟩ rfl hl.1 rfl (Nat.le_of_ble_eq_true rfl) dX12_rounds_10 ⟨Nat.zero_le _, Nat.zero_le _⟩) hB hA rfl (fun H locs hB => ?_)
    obtain ⟨rfl, rfl⟩ := Prod.mk.inj (Option.some.inj h)
    exact W.iret hx hb hr (R_end hB) hB.2.2.2.2 dX12_rounds_13
def f_X12_alikeFrom_t66 (x1 : Int64) (x3 : Int32) (x6 : Int64) (x8 : Int64) (x10 : Int64) (σ1 : Hp) : Option ((Int64 × Int64 × Hp) ⊕ ((Int64 × Hp) ⊕ (Int64 × Hp))) := if (lg_cmp x10 (0 : Int64)) ≤ 0 then ex (if (lg_cmp x8 x1) < 0 then some (.inl ((x6 + (1 : Int64)), σ1)) else ex (some (x8, σ1))) else ck (¬ ((hI σ1 40 2).toInt64) = 0) (some (.inl (((x8 * (hI σ1 40 2).toInt64) + (x10 - x10 / (hI σ1 40 2).toInt64 * (hI σ1 40 2).toInt64)), (x10 / (hI σ1 40 2).toInt64), σ1)))
def f_X12_alikeFrom_s66 (x1 : Int64) (x3 : Int32) (x6 : Int64) (v : (Int64 × Int64 × Hp)) : Option ((Int64 × Int64 × Hp) ⊕ ((Int64 × Hp) ⊕ (Int64 × Hp))) := f_X12_alikeFrom_t66 x1 x3 x6 v.1 v.2.1 v.2.2
def f_X12_alikeFrom_b64 (x1 : Int64) (x3 : Int32) (x6 : Int64) (x8 : Int64) (xt0 : Int64) (σ1 : Hp) : Option ((Int64 × Hp) ⊕ (Int64 × Hp)) := iter (f_X12_alikeFrom_s66 x1 x3 x6) fuel (x8, xt0, σ1)
def f_X12_alikeFrom_t40 (x1 : Int64) (x3 : Int32) (x6 : Int64) (σ1 : Hp) : Option ((Int64 × Hp) ⊕ (Int64 × Hp)) := if (x3 - x3 / (2 : Int32) * (2 : Int32)) = (1 : Int32) then ck (¬ ((hI σ1 40 2).toInt64) = 0) (f_X12_alikeFrom_b64 x1 x3 x6 x6 (x6 / (hI σ1 40 2).toInt64) σ1) else f_X12_alikeFrom_b64 x1 x3 x6 x6 x6 σ1
def f_X12_alikeFrom_s40 (x1 : Int64) (x3 : Int32) (v : (Int64 × Hp)) : Option ((Int64 × Hp) ⊕ (Int64 × Hp)) := f_X12_alikeFrom_t40 x1 x3 v.1 v.2
def f_X12_alikeFrom_t12 (x1 : Int64) (x3 : Int32) (x4 : Int64) (x6 : Int32) (σ1 : Hp) : Option ((Int64 × Int32 × Hp) ⊕ (Int64 × Hp)) := if (x3 / (2 : Int32)) ≤ x6 then ex (iter (f_X12_alikeFrom_s40 x1 x3) fuel (x4, σ1)) else ck (¬ ((hI σ1 40 2).toInt64) = 0) (some (.inl ((x4 / (hI σ1 40 2).toInt64), (x6 + 1), σ1)))
def f_X12_alikeFrom_s12 (x1 : Int64) (x3 : Int32) (v : (Int64 × Int32 × Hp)) : Option ((Int64 × Int32 × Hp) ⊕ (Int64 × Hp)) := f_X12_alikeFrom_t12 x1 x3 v.1 v.2.1 v.2.2
def f_X12_alikeFrom (a1 : Int64) (σ : Hp) : Option (Int64 × Hp) := b2 (f_X12_figures a1 σ) (fun r_7 s_8 => iter (f_X12_alikeFrom_s12 a1 r_7) fuel (a1, (0 : Int32), s_8))
set_option maxHeartbeats 4000000 in
set_option maxRecDepth 100000 in
theorem c_X12_alikeFrom (l : Launch) (g : tG) (P : Nat → Nat) (σ : Hp) (a1 : Int64) (sz : Nat) {r : Int64} {τ : Hp} (h : f_X12_alikeFrom a1 σ = some (r, τ)) : Met l yX12_alikeFrom (Cond.code yX12_alikeFrom cX12_alikeFrom 12 (some .long) :: tblG) ({ frames := 1, cells := 0, slots := 0, locals := 25 }) (va_Pc [.ref (gL g 40), .long a1] (tPre g P σ sz)) (tQ (some (.long r)) (tPost g P τ (va_A (wC g P σ) sz)) (va_A (wC g P σ) sz)) 0 0 (va_A (wC g P σ) sz) := by
  refine T_start (B := fun A => tPost g P τ A) (by decide) (Nat.le_of_ble_eq_true rfl) ?_
  intro p e s m args below meth c ls0 A hx hb hml hr hown hlocks ht hnm hK hZ hA hB0 hl0
  have hL_40 : ∀ (x1 : Int64) (x3 : Int32) (n : Nat) (x6 : Int64) (σ1 : Hp) (H : Heap) (locs : List Loc) (ls : Array Slot), iter (f_X12_alikeFrom_s40 x1 x3) n (x6, σ1) = some (r, τ) → tB g P σ1 A s.heap H locs → lv_has ls 12 [(0, .ref (gL g 40)), (1, .long x1), (3, .int x3), (6, .long x6)] → WQ p l e { frames := 1, cells := 0, slots := 0, locals := 25 } s m args below meth c g P A (some (.long r)) τ H locs (F0 m 40 ls []) := by
    intro x1 x3 n
    induction n with
    | zero =>
      intro x6 σ1 H locs ls h hB hl
      exact (iter_0 h).elim
    | succ n ih1 =>
      intro x6 σ1 H locs ls h hB hl
      replace h := iter_eq h; obtain ⟨z1, hh1, hx1⟩ := h
      have hL_66 : ∀ (x6 : Int64) (n : Nat) (x8 : Int64) (x10 : Int64) (σ1 : Hp) (H : Heap) (locs : List Loc) (ls : Array Slot), iter (f_X12_alikeFrom_s66 x1 x3 x6) n (x8, x10, σ1) = some z1 → tB g P σ1 A s.heap H locs → lv_has ls 12 [(0, .ref (gL g 40)), (1, .long x1), (3, .int x3), (6, .long x6), (8, .long x8), (10, .long x10)] → WQ p l e { frames := 1, cells := 0, slots := 0, locals := 25 } s m args below meth c g P A (some (.long r)) τ H locs (F0 m 66 ls []) := by
        intro x6 n
        induction n with
        | zero =>
          intro x8 x10 σ1 H locs ls h hB hl
          exact (iter_0 h).elim
        | succ n ih2 =>
          intro x8 x10 σ1 H locs ls h hB hl
          replace h := iter_eq h; obtain ⟨z2, hh2, hx2⟩ := h
          have h : f_X12_alikeFrom_t66 x1 x3 x6 x8 x10 σ1 = some z2 := hh2
          clear hh2
          unfold f_X12_alikeFrom_t66 at h
          refine lv_lload hx hb dX12_alikeFrom_66 (lv_at hl 5 rfl) ?_
          refine lv_lconst (v := 0) hx hb dX12_alikeFrom_68 (by decide) ?_
          refine W.lcmp hx hb dX12_alikeFrom_69 ?_
          refine lv_if_le (tgt := 105) hx hb dX12_alikeFrom_70 (by decide) (fun c_12 => ?_) (fun c_12 => ?_)
          · replace h := itp h c_12
            replace h := ex_eq h; obtain ⟨b2, h, hz2⟩ := h
            subst hz2
            have hz2 := (itk_inr hx2).symm
            subst hz2
            refine lv_lload hx hb dX12_alikeFrom_105 (lv_at hl 4 rfl) ?_
            refine lv_lload_n hx hb dX12_alikeFrom_107 rfl (lv_at hl 1 rfl) ?_
            refine W.lcmp hx hb dX12_alikeFrom_108 ?_
            refine lv_if_lt (tgt := 115) hx hb dX12_alikeFrom_109 (by decide) (fun c_13 => ?_) (fun c_13 => ?_)
            · replace h := itp h c_13
              refine lv_lload hx hb dX12_alikeFrom_115 (lv_at hl 3 rfl) ?_
              refine lv_lconst (v := 1) hx hb dX12_alikeFrom_117 (by decide) ?_
              refine lv_ladd hx hb dX12_alikeFrom_118 ?_
              refine lv_lstore (lv' := [(6, .long (x6 + (1 : Int64))), (0, .ref (gL g 40)), (1, .long x1), (3, .int x3), (8, .long x8), (10, .long x10)]) hx hb dX12_alikeFrom_119 hl (by decide) rfl (fun ls hl => ?_)
              refine lv_goto (tgt := 40) hx hb dX12_alikeFrom_121 (by decide) ?_
              obtain rfl := Option.some.inj h
              exact ih1 (x6 + (1 : Int64)) σ1 H locs ls hx1 hB (lv_sub hl [1, 2, 3, 0] rfl)
            · replace h := itn h c_13
              replace h := ex_eq h; obtain ⟨b1, h, hz1⟩ := h
              subst hz1
              have hz1 := (itk_inr hx1).symm
              subst hz1
              refine lv_lload hx hb dX12_alikeFrom_112 (lv_at hl 4 rfl) ?_
              obtain ⟨rfl, rfl⟩ := Prod.mk.inj (Option.some.inj h)
              exact W.lret hx hb hr (R_end hB) hB.2.2.2.2 dX12_alikeFrom_114
          · replace h := itn h c_12
            refine lv_lload hx hb dX12_alikeFrom_73 (lv_at hl 4 rfl) ?_
            refine lv_aload_n hx hb dX12_alikeFrom_75 rfl (lv_at hl 0 rfl) ?_
            refine R_get (v := .int (hI σ1 40 2)) hx hb ht ui_X12 hown hK hB (by decide) (cell_8 rfl) rfl 2 (by decide) (ht _ tw918) (fun _ h9 => h9) rfl dX12_alikeFrom_76 ?_
            refine lv_i2l (v := (hI σ1 40 2).toInt64) hx hb dX12_alikeFrom_79 rfl ?_
            refine lv_lmul hx hb dX12_alikeFrom_80 ?_
            refine lv_lload hx hb dX12_alikeFrom_81 (lv_at hl 5 rfl) ?_
            refine lv_aload_n hx hb dX12_alikeFrom_83 rfl (lv_at hl 0 rfl) ?_
            refine R_get (v := .int (hI σ1 40 2)) hx hb ht ui_X12 hown hK hB (by decide) (cell_8 rfl) rfl 2 (by decide) (ht _ tw918) (fun _ h9 => h9) rfl dX12_alikeFrom_84 ?_
            refine lv_i2l (v := (hI σ1 40 2).toInt64) hx hb dX12_alikeFrom_87 rfl ?_
            replace h := ck_eq h; obtain ⟨q_14, h⟩ := h
            refine lv_lrem hx hb dX12_alikeFrom_88 q_14 ?_
            refine lv_ladd hx hb dX12_alikeFrom_89 ?_
            refine lv_lstore (lv' := [(8, .long ((x8 * (hI σ1 40 2).toInt64) + (x10 - x10 / (hI σ1 40 2).toInt64 * (hI σ1 40 2).toInt64))), (0, .ref (gL g 40)), (1, .long x1), (3, .int x3), (6, .long x6), (10, .long x10)]) hx hb dX12_alikeFrom_90 hl (by decide) rfl (fun ls hl => ?_)
            refine lv_lload hx hb dX12_alikeFrom_92 (lv_at hl 5 rfl) ?_
            refine lv_aload_n hx hb dX12_alikeFrom_94 rfl (lv_at hl 1 rfl) ?_
            refine R_get (v := .int (hI σ1 40 2)) hx hb ht ui_X12 hown hK hB (by decide) (cell_8 rfl) rfl 2 (by decide) (ht _ tw918) (fun _ h9 => h9) rfl dX12_alikeFrom_95 ?_
            refine lv_i2l (v := (hI σ1 40 2).toInt64) hx hb dX12_alikeFrom_98 rfl ?_
            refine lv_ldiv hx hb dX12_alikeFrom_99 q_14 ?_
            refine lv_lstore (lv' := [(10, .long (x10 / (hI σ1 40 2).toInt64)), (8, .long ((x8 * (hI σ1 40 2).toInt64) + (x10 - x10 / (hI σ1 40 2).toInt64 * (hI σ1 40 2).toInt64))), (0, .ref (gL g 40)), (1, .long x1), (3, .int x3), (6, .long x6)]) hx hb dX12_alikeFrom_100 hl (by decide) rfl (fun ls hl => ?_)
            refine lv_goto (tgt := 66) hx hb dX12_alikeFrom_102 (by decide) ?_
            obtain rfl := Option.some.inj h
            exact ih2 ((x8 * (hI σ1 40 2).toInt64) + (x10 - x10 / (hI σ1 40 2).toInt64 * (hI σ1 40 2).toInt64)) (x10 / (hI σ1 40 2).toInt64) σ1 H locs ls hx2 hB (lv_sub hl [2, 3, 4, 5, 1, 0] rfl)
      have hb_64 : ∀ (x6 : Int64) (x8 : Int64) (xt0 : Int64) (σ1 : Hp) (H : Heap) (locs : List Loc) (ls : Array Slot), f_X12_alikeFrom_b64 x1 x3 x6 x8 xt0 σ1 = some z1 → tB g P σ1 A s.heap H locs → lv_has ls 12 [(0, .ref (gL g 40)), (1, .long x1), (3, .int x3), (6, .long x6), (8, .long x8)] → WQ p l e { frames := 1, cells := 0, slots := 0, locals := 25 } s m args below meth c g P A (some (.long r)) τ H locs (F0 m 64 ls [.long xt0]) := by
        intro x6 x8 xt0 σ1 H locs ls h hB hl
        unfold f_X12_alikeFrom_b64 at h
        refine lv_lstore (lv' := [(10, .long xt0), (0, .ref (gL g 40)), (1, .long x1), (3, .int x3), (6, .long x6), (8, .long x8)]) hx hb dX12_alikeFrom_64 hl (by decide) rfl (fun ls hl => ?_)
        exact hL_66 x6 fuel x8 xt0 σ1 H locs ls h hB (lv_sub hl [1, 2, 3, 4, 5, 0] rfl)
      have h : f_X12_alikeFrom_t40 x1 x3 x6 σ1 = some z1 := hh1
      clear hh1
      unfold f_X12_alikeFrom_t40 at h
      refine lv_lload hx hb dX12_alikeFrom_40 (lv_at hl 3 rfl) ?_
      refine lv_lstore (lv' := [(8, .long x6), (0, .ref (gL g 40)), (1, .long x1), (3, .int x3), (6, .long x6)]) hx hb dX12_alikeFrom_42 hl (by decide) rfl (fun ls hl => ?_)
      refine lv_iload_n hx hb dX12_alikeFrom_44 rfl (lv_at hl 3 rfl) ?_
      refine lv_iconst (v := 2) hx hb dX12_alikeFrom_45 (by decide) ?_
      refine lv_irem hx hb dX12_alikeFrom_46 (by decide) ?_
      refine lv_iconst (v := 1) hx hb dX12_alikeFrom_47 (by decide) ?_
      refine lv_icmp_ne (tgt := 62) hx hb dX12_alikeFrom_48 (by decide) (fun c_11 => ?_) (fun c_11 => ?_)
      · replace h := itn h c_11
        refine lv_lload hx hb dX12_alikeFrom_62 (lv_at hl 4 rfl) ?_
        exact hb_64 x6 x6 x6 σ1 H locs ls h hB (lv_sub hl [1, 2, 3, 4, 0] rfl)
      · replace h := itp h c_11
        refine lv_lload hx hb dX12_alikeFrom_51 (lv_at hl 4 rfl) ?_
        refine lv_aload_n hx hb dX12_alikeFrom_53 rfl (lv_at hl 1 rfl) ?_
        refine R_get (v := .int (hI σ1 40 2)) hx hb ht ui_X12 hown hK hB (by decide) (cell_8 rfl) rfl 2 (by decide) (ht _ tw918) (fun _ h9 => h9) rfl dX12_alikeFrom_54 ?_
        refine lv_i2l (v := (hI σ1 40 2).toInt64) hx hb dX12_alikeFrom_57 rfl ?_
        replace h := ck_eq h; obtain ⟨q_15, h⟩ := h
        refine lv_ldiv hx hb dX12_alikeFrom_58 q_15 ?_
        refine lv_goto (tgt := 64) hx hb dX12_alikeFrom_59 (by decide) ?_
        exact hb_64 x6 x6 (x6 / (hI σ1 40 2).toInt64) σ1 H locs ls h hB (lv_sub hl [1, 2, 3, 4, 0] rfl)
  have hL_12 : ∀ (x1 : Int64) (x3 : Int32) (n : Nat) (x4 : Int64) (x6 : Int32) (σ1 : Hp) (H : Heap) (locs : List Loc) (ls : Array Slot), iter (f_X12_alikeFrom_s12 x1 x3) n (x4, x6, σ1) = some (r, τ) → tB g P σ1 A s.heap H locs → lv_has ls 12 [(0, .ref (gL g 40)), (1, .long x1), (3, .int x3), (4, .long x4), (6, .int x6)] → WQ p l e { frames := 1, cells := 0, slots := 0, locals := 25 } s m args below meth c g P A (some (.long r)) τ H locs (F0 m 12 ls []) := by
    intro x1 x3 n
    induction n with
    | zero =>
      intro x4 x6 σ1 H locs ls h hB hl
      exact (iter_0 h).elim
    | succ n ih1 =>
      intro x4 x6 σ1 H locs ls h hB hl
      replace h := iter_eq h; obtain ⟨z1, hh1, hx1⟩ := h
      have h : f_X12_alikeFrom_t12 x1 x3 x4 x6 σ1 = some z1 := hh1
      clear hh1
      unfold f_X12_alikeFrom_t12 at h
      refine lv_iload hx hb dX12_alikeFrom_12 (lv_at hl 4 rfl) ?_
      refine lv_iload_n hx hb dX12_alikeFrom_14 rfl (lv_at hl 2 rfl) ?_
      refine lv_iconst (v := 2) hx hb dX12_alikeFrom_15 (by decide) ?_
      refine lv_idiv hx hb dX12_alikeFrom_16 (by decide) ?_
      refine lv_icmp_ge (tgt := 36) hx hb dX12_alikeFrom_17 (by decide) (fun c_10 => ?_) (fun c_10 => ?_)
      · replace h := itp h c_10
        replace h := ex_eq h; obtain ⟨b1, h, hz1⟩ := h
        subst hz1
        have hz1 := (itk_inr hx1).symm
        subst hz1
        refine lv_lload hx hb dX12_alikeFrom_36 (lv_at hl 3 rfl) ?_
        refine lv_lstore (lv' := [(6, .long x4), (0, .ref (gL g 40)), (1, .long x1), (3, .int x3), (4, .long x4)]) hx hb dX12_alikeFrom_38 hl (by decide) rfl (fun ls hl => ?_)
        exact hL_40 x1 x3 fuel x4 σ1 H locs ls h hB (lv_sub hl [1, 2, 3, 0] rfl)
      · replace h := itn h c_10
        refine lv_lload hx hb dX12_alikeFrom_20 (lv_at hl 3 rfl) ?_
        refine lv_aload_n hx hb dX12_alikeFrom_22 rfl (lv_at hl 0 rfl) ?_
        refine R_get (v := .int (hI σ1 40 2)) hx hb ht ui_X12 hown hK hB (by decide) (cell_8 rfl) rfl 2 (by decide) (ht _ tw918) (fun _ h9 => h9) rfl dX12_alikeFrom_23 ?_
        refine lv_i2l (v := (hI σ1 40 2).toInt64) hx hb dX12_alikeFrom_26 rfl ?_
        replace h := ck_eq h; obtain ⟨q_16, h⟩ := h
        refine lv_ldiv hx hb dX12_alikeFrom_27 q_16 ?_
        refine lv_lstore (lv' := [(4, .long (x4 / (hI σ1 40 2).toInt64)), (0, .ref (gL g 40)), (1, .long x1), (3, .int x3), (6, .int x6)]) hx hb dX12_alikeFrom_28 hl (by decide) rfl (fun ls hl => ?_)
        refine lv_iinc (v := x6 + 1) (lv' := [(6, .int (x6 + 1)), (4, .long (x4 / (hI σ1 40 2).toInt64)), (0, .ref (gL g 40)), (1, .long x1), (3, .int x3)]) hx hb dX12_alikeFrom_30 hl (k := 4) rfl rfl (by decide) rfl (fun ls hl => ?_)
        refine lv_goto (tgt := 12) hx hb dX12_alikeFrom_33 (by decide) ?_
        obtain rfl := Option.some.inj h
        exact ih1 (x4 / (hI σ1 40 2).toInt64) (x6 + 1) σ1 H locs ls hx1 hB (lv_sub hl [2, 3, 4, 1, 0] rfl)
  suffices hmain : ∀ (H : Heap) (locs : List Loc) (ls : Array Slot), tB g P σ A s.heap H locs → lv_has ls 12 [(0, .ref (gL g 40)), (1, .long a1)] → WQ p l e { frames := 1, cells := 0, slots := 0, locals := 25 } s m args below meth c g P A (some (.long r)) τ H locs (F0 m 0 ls []) from hmain _ _ ls0 hB0 hl0
  intro H locs ls hB hl
  unfold f_X12_alikeFrom at h
  refine lv_aload_n hx hb dX12_alikeFrom_0 rfl (lv_at hl 0 rfl) ?_
  refine lv_lload_n hx hb dX12_alikeFrom_1 rfl (lv_at hl 1 rfl) ?_
  replace h := b2_eq h; obtain ⟨r_7, s_8, hc_9, h⟩ := h
  refine R_call (rest := []) [.int r_7] (R_runV (n := 1) (As := [.long a1]) ⟨hx, hb, hml, hown, ht⟩ (fun _ h9 => h9) hK hZ hA hB (c_X12_figures l g P σ a1 H.size hc_9) (R_recv hK hB (by decide) (cell_8 rfl) rfl) tw1087 tw1084 tw1086 pw31 tw5 ⟨by decide, by decide, by decide⟩ rfl rfl ⟨Nat.le_of_ble_eq_true rfl, Nat.le_of_ble_eq_true rfl⟩ rfl hl.1 rfl (Nat.le_of_ble_eq_true rfl) dX12_alikeFrom_2 ⟨Nat.zero_le _, Nat.zero_le _⟩) hB hA rfl (fun H locs hB => ?_)
  refine lv_istore_n (lv' := [(3, .int r_7), (0, .ref (gL g 40)), (1, .long a1)]) hx hb dX12_alikeFrom_5 rfl hl (by decide) rfl (fun ls hl => ?_)
  refine lv_lload_n hx hb dX12_alikeFrom_6 rfl (lv_at hl 2 rfl) ?_
  refine lv_lstore (lv' := [(4, .long a1), (3, .int r_7), (0, .ref (gL g 40)), (1, .long a1)]) hx hb dX12_alikeFrom_7 hl (by decide) rfl (fun ls hl => ?_)
  refine lv_iconst (v := 0) hx hb dX12_alikeFrom_9 (by decide) ?_
  refine lv_istore (lv' := [(6, .int (0 : Int32)), (4, .long a1), (3, .int r_7), (0, .ref (gL g 40)), (1, .long a1)]) hx hb dX12_alikeFrom_10 hl (by decide) rfl (fun ls hl => ?_)
  exact hL_12 a1 r_7 fuel a1 (0 : Int32) s_8 H locs ls h hB (lv_sub hl [3, 4, 2, 1, 0] rfl)
def f_X12_waits (a1 : Int64) (σ : Hp) : Option (Int64 × Hp) := b2 (f_X12_isNumber a1 σ) (fun r_1 s_2 => if r_1 = 0 then b2 (f_X12_no (-6 : Int32) s_2) (fun r_12 s_13 => some (r_12.toInt64, s_13)) else b2 (f_X12_alikeFrom a1 s_2) (fun r_5 s_6 => if (lg_cmp r_5 (999999999999999 : Int64)) ≤ 0 then some ((r_5 - a1), s_6) else b2 (f_X12_no (-6 : Int32) s_6) (fun r_9 s_10 => some (r_9.toInt64, s_10))))
set_option maxHeartbeats 4000000 in
set_option maxRecDepth 100000 in
theorem c_X12_waits (l : Launch) (g : tG) (P : Nat → Nat) (σ : Hp) (a1 : Int64) (sz : Nat) {r : Int64} {τ : Hp} (h : f_X12_waits a1 σ = some (r, τ)) : Met l yX12_waits (Cond.code yX12_waits cX12_waits 5 (some .long) :: tblG) ({ frames := 2, cells := 0, slots := 0, locals := 56 }) (va_Pc [.ref (gL g 40), .long a1] (tPre g P σ sz)) (tQ (some (.long r)) (tPost g P τ (va_A (wC g P σ) sz)) (va_A (wC g P σ) sz)) 0 0 (va_A (wC g P σ) sz) := by
  refine T_start (B := fun A => tPost g P τ A) (by decide) (Nat.le_of_ble_eq_true rfl) ?_
  intro p e s m args below meth c ls0 A hx hb hml hr hown hlocks ht hnm hK hZ hA hB0 hl0
  suffices hmain : ∀ (H : Heap) (locs : List Loc) (ls : Array Slot), tB g P σ A s.heap H locs → lv_has ls 5 [(0, .ref (gL g 40)), (1, .long a1)] → WQ p l e { frames := 2, cells := 0, slots := 0, locals := 56 } s m args below meth c g P A (some (.long r)) τ H locs (F0 m 0 ls []) from hmain _ _ ls0 hB0 hl0
  intro H locs ls hB hl
  unfold f_X12_waits at h
  refine lv_aload_n hx hb dX12_waits_0 rfl (lv_at hl 0 rfl) ?_
  refine lv_lload_n hx hb dX12_waits_1 rfl (lv_at hl 1 rfl) ?_
  replace h := b2_eq h; obtain ⟨r_1, s_2, hc_3, h⟩ := h
  refine R_call (rest := []) [.int r_1] (R_runV (n := 1) (As := [.long a1]) ⟨hx, hb, hml, hown, ht⟩ (fun _ h9 => h9) hK hZ hA hB (c_X12_isNumber l g P σ a1 H.size hc_3) (R_recv hK hB (by decide) (cell_8 rfl) rfl) tw1177 tw1174 tw1176 pw45 tw5 ⟨by decide, by decide, by decide⟩ rfl rfl ⟨Nat.le_of_ble_eq_true rfl, Nat.le_of_ble_eq_true rfl⟩ rfl hl.1 rfl (Nat.le_of_ble_eq_true rfl) dX12_waits_2 ⟨Nat.zero_le _, Nat.zero_le _⟩) hB hA rfl (fun H locs hB => ?_)
  refine lv_if_ne (tgt := 16) hx hb dX12_waits_5 (by decide) (fun c_4 => ?_) (fun c_4 => ?_)
  · replace h := itn h c_4
    refine lv_aload_n hx hb dX12_waits_16 rfl (lv_at hl 0 rfl) ?_
    refine lv_lload_n hx hb dX12_waits_17 rfl (lv_at hl 1 rfl) ?_
    replace h := b2_eq h; obtain ⟨r_5, s_6, hc_7, h⟩ := h
    refine R_call (rest := []) [.long r_5] (R_runV (n := 1) (As := [.long a1]) ⟨hx, hb, hml, hown, ht⟩ (fun _ h9 => h9) hK hZ hA hB (c_X12_alikeFrom l g P s_2 a1 H.size hc_7) (R_recv hK hB (by decide) (cell_8 rfl) rfl) tw1258 tw1255 tw1257 pw52 tw5 ⟨by decide, by decide, by decide⟩ rfl rfl ⟨Nat.le_of_ble_eq_true rfl, Nat.le_of_ble_eq_true rfl⟩ rfl hl.1 rfl (Nat.le_of_ble_eq_true rfl) dX12_waits_18 ⟨Nat.zero_le _, Nat.zero_le _⟩) hB hA rfl (fun H locs hB => ?_)
    refine lv_lstore_n (lv' := [(3, .long r_5), (0, .ref (gL g 40)), (1, .long a1)]) hx hb dX12_waits_21 rfl hl (by decide) rfl (fun ls hl => ?_)
    refine lv_lload_n hx hb dX12_waits_22 rfl (lv_at hl 0 rfl) ?_
    refine lv_ldc2 (v := 999999999999999) hx hb hown (ht _ tw1088) dX12_waits_23 ?_
    refine W.lcmp hx hb dX12_waits_26 ?_
    refine lv_if_le (tgt := 40) hx hb dX12_waits_27 (by decide) (fun c_8 => ?_) (fun c_8 => ?_)
    · replace h := itp h c_8
      refine lv_lload_n hx hb dX12_waits_40 rfl (lv_at hl 0 rfl) ?_
      refine lv_lload_n hx hb dX12_waits_41 rfl (lv_at hl 2 rfl) ?_
      refine lv_lsub hx hb dX12_waits_42 ?_
      obtain ⟨rfl, rfl⟩ := Prod.mk.inj (Option.some.inj h)
      exact W.lret hx hb hr (R_end hB) hB.2.2.2.2 dX12_waits_43
    · replace h := itn h c_8
      refine lv_aload_n hx hb dX12_waits_30 rfl (lv_at hl 1 rfl) ?_
      refine lv_bipush (v := -6) hx hb dX12_waits_31 (by decide) ?_
      replace h := b2_eq h; obtain ⟨r_9, s_10, hc_11, h⟩ := h
      refine R_call (rest := []) [.int r_9] (R_runV (n := 1) (As := [.int (-6 : Int32)]) ⟨hx, hb, hml, hown, ht⟩ (fun _ h9 => h9) hK hZ hA hB (c_X12_no l g P s_6 (-6 : Int32) H.size hc_11) (R_recv hK hB (by decide) (cell_8 rfl) rfl) tw1042 tw1039 tw1041 pw26 tw5 ⟨by decide, by decide, by decide⟩ rfl rfl ⟨Nat.le_of_ble_eq_true rfl, Nat.le_of_ble_eq_true rfl⟩ rfl hl.1 rfl (Nat.le_of_ble_eq_true rfl) dX12_waits_33 ⟨Nat.zero_le _, Nat.zero_le _⟩) hB hA rfl (fun H locs hB => ?_)
      refine lv_i2l (v := r_9.toInt64) hx hb dX12_waits_36 rfl ?_
      refine lv_goto (tgt := 43) hx hb dX12_waits_37 (by decide) ?_
      obtain ⟨rfl, rfl⟩ := Prod.mk.inj (Option.some.inj h)
      exact W.lret hx hb hr (R_end hB) hB.2.2.2.2 dX12_waits_43
  · replace h := itp h c_4
    refine lv_aload_n hx hb dX12_waits_8 rfl (lv_at hl 0 rfl) ?_
    refine lv_bipush (v := -6) hx hb dX12_waits_9 (by decide) ?_
    replace h := b2_eq h; obtain ⟨r_12, s_13, hc_14, h⟩ := h
    refine R_call (rest := []) [.int r_12] (R_runV (n := 1) (As := [.int (-6 : Int32)]) ⟨hx, hb, hml, hown, ht⟩ (fun _ h9 => h9) hK hZ hA hB (c_X12_no l g P s_2 (-6 : Int32) H.size hc_14) (R_recv hK hB (by decide) (cell_8 rfl) rfl) tw1042 tw1039 tw1041 pw26 tw5 ⟨by decide, by decide, by decide⟩ rfl rfl ⟨Nat.le_of_ble_eq_true rfl, Nat.le_of_ble_eq_true rfl⟩ rfl hl.1 rfl (Nat.le_of_ble_eq_true rfl) dX12_waits_11 ⟨Nat.zero_le _, Nat.zero_le _⟩) hB hA rfl (fun H locs hB => ?_)
    refine lv_i2l (v := r_12.toInt64) hx hb dX12_waits_14 rfl ?_
    obtain ⟨rfl, rfl⟩ := Prod.mk.inj (Option.some.inj h)
    exact W.lret hx hb hr (R_end hB) hB.2.2.2.2 dX12_waits_15
def f_X12_fit_b16 (σ1 : Hp) : Option (Int32 × Hp) := b2 (f_X12_no (-6 : Int32) σ1) (fun r_5 s_6 => some (r_5, s_6))
def f_X12_fit_b59 (x1 : Int64) (x3 : Int64) (x5 : Int32) (x6 : Int32) (σ1 : Hp) : Option ((Int32 × Int32 × Hp) ⊕ (Int32 × Hp)) := some (.inl (x5, (x6 + 1), σ1))
def f_X12_fit_t29 (x1 : Int64) (x3 : Int64) (x5 : Int32) (x6 : Int32) (σ1 : Hp) : Option ((Int32 × Int32 × Hp) ⊕ (Int32 × Hp)) := if (hI σ1 40 0) ≤ x6 then ex (some (x5, σ1)) else b2 (f_X12_nextOf x6 x1 σ1) (fun r_13 s_14 => if (lg_cmp r_13 x3) = 0 then f_X12_fit_b59 x1 x3 (x5 ||| ((1 : Int32) <<< (x6 &&& 31))) x6 s_14 else f_X12_fit_b59 x1 x3 x5 x6 s_14)
def f_X12_fit_s29 (x1 : Int64) (x3 : Int64) (v : (Int32 × Int32 × Hp)) : Option ((Int32 × Int32 × Hp) ⊕ (Int32 × Hp)) := f_X12_fit_t29 x1 x3 v.1 v.2.1 v.2.2
def f_X12_fit (a1 : Int64) (a3 : Int64) (σ : Hp) : Option (Int32 × Hp) := b2 (f_X12_isNumber a1 σ) (fun r_1 s_2 => if r_1 = 0 then f_X12_fit_b16 s_2 else b2 (f_X12_isNumber a3 s_2) (fun r_8 s_9 => if r_8 = 0 then f_X12_fit_b16 s_9 else iter (f_X12_fit_s29 a1 a3) fuel ((0 : Int32), (0 : Int32), s_9)))
set_option maxHeartbeats 4000000 in
set_option maxRecDepth 100000 in
theorem c_X12_fit (l : Launch) (g : tG) (P : Nat → Nat) (σ : Hp) (a1 : Int64) (a3 : Int64) (sz : Nat) {r : Int32} {τ : Hp} (h : f_X12_fit a1 a3 σ = some (r, τ)) : Met l yX12_fit (Cond.code yX12_fit cX12_fit 7 (some .int) :: tblG) ({ frames := 3, cells := 0, slots := 0, locals := 82 }) (va_Pc [.ref (gL g 40), .long a1, .long a3] (tPre g P σ sz)) (tQ (some (.int r)) (tPost g P τ (va_A (wC g P σ) sz)) (va_A (wC g P σ) sz)) 0 0 (va_A (wC g P σ) sz) := by
  refine T_start (B := fun A => tPost g P τ A) (by decide) (Nat.le_of_ble_eq_true rfl) ?_
  intro p e s m args below meth c ls0 A hx hb hml hr hown hlocks ht hnm hK hZ hA hB0 hl0
  have hb_16 : ∀ (σ1 : Hp) (H : Heap) (locs : List Loc) (ls : Array Slot), f_X12_fit_b16 σ1 = some (r, τ) → tB g P σ1 A s.heap H locs → lv_has ls 7 [(0, .ref (gL g 40))] → WQ p l e { frames := 3, cells := 0, slots := 0, locals := 82 } s m args below meth c g P A (some (.int r)) τ H locs (F0 m 16 ls []) := by
    intro σ1 H locs ls h hB hl
    unfold f_X12_fit_b16 at h
    refine lv_aload_n hx hb dX12_fit_16 rfl (lv_at hl 0 rfl) ?_
    refine lv_bipush (v := -6) hx hb dX12_fit_17 (by decide) ?_
    replace h := b2_eq h; obtain ⟨r_5, s_6, hc_7, h⟩ := h
    refine R_call (rest := []) [.int r_5] (R_runV (n := 1) (As := [.int (-6 : Int32)]) ⟨hx, hb, hml, hown, ht⟩ (fun _ h9 => h9) hK hZ hA hB (c_X12_no l g P σ1 (-6 : Int32) H.size hc_7) (R_recv hK hB (by decide) (cell_8 rfl) rfl) tw1042 tw1039 tw1041 pw26 tw5 ⟨by decide, by decide, by decide⟩ rfl rfl ⟨Nat.le_of_ble_eq_true rfl, Nat.le_of_ble_eq_true rfl⟩ rfl hl.1 rfl (Nat.le_of_ble_eq_true rfl) dX12_fit_19 ⟨Nat.zero_le _, Nat.zero_le _⟩) hB hA rfl (fun H locs hB => ?_)
    obtain ⟨rfl, rfl⟩ := Prod.mk.inj (Option.some.inj h)
    exact W.iret hx hb hr (R_end hB) hB.2.2.2.2 dX12_fit_22
  have hL_29 : ∀ (x1 : Int64) (x3 : Int64) (n : Nat) (x5 : Int32) (x6 : Int32) (σ1 : Hp) (H : Heap) (locs : List Loc) (ls : Array Slot), iter (f_X12_fit_s29 x1 x3) n (x5, x6, σ1) = some (r, τ) → tB g P σ1 A s.heap H locs → lv_has ls 7 [(0, .ref (gL g 40)), (1, .long x1), (3, .long x3), (5, .int x5), (6, .int x6)] → WQ p l e { frames := 3, cells := 0, slots := 0, locals := 82 } s m args below meth c g P A (some (.int r)) τ H locs (F0 m 29 ls []) := by
    intro x1 x3 n
    induction n with
    | zero =>
      intro x5 x6 σ1 H locs ls h hB hl
      exact (iter_0 h).elim
    | succ n ih1 =>
      intro x5 x6 σ1 H locs ls h hB hl
      replace h := iter_eq h; obtain ⟨z1, hh1, hx1⟩ := h
      have hb_59 : ∀ (x5 : Int32) (x6 : Int32) (σ1 : Hp) (H : Heap) (locs : List Loc) (ls : Array Slot), f_X12_fit_b59 x1 x3 x5 x6 σ1 = some z1 → tB g P σ1 A s.heap H locs → lv_has ls 7 [(0, .ref (gL g 40)), (1, .long x1), (3, .long x3), (5, .int x5), (6, .int x6)] → WQ p l e { frames := 3, cells := 0, slots := 0, locals := 82 } s m args below meth c g P A (some (.int r)) τ H locs (F0 m 59 ls []) := by
        intro x5 x6 σ1 H locs ls h hB hl
        unfold f_X12_fit_b59 at h
        refine lv_iinc (v := x6 + 1) (lv' := [(6, .int (x6 + 1)), (0, .ref (gL g 40)), (1, .long x1), (3, .long x3), (5, .int x5)]) hx hb dX12_fit_59 hl (k := 4) rfl rfl (by decide) rfl (fun ls hl => ?_)
        refine lv_goto (tgt := 29) hx hb dX12_fit_62 (by decide) ?_
        obtain rfl := Option.some.inj h
        exact ih1 x5 (x6 + 1) σ1 H locs ls hx1 hB (lv_sub hl [1, 2, 3, 4, 0] rfl)
      have h : f_X12_fit_t29 x1 x3 x5 x6 σ1 = some z1 := hh1
      clear hh1
      unfold f_X12_fit_t29 at h
      refine lv_iload hx hb dX12_fit_29 (lv_at hl 4 rfl) ?_
      refine lv_aload_n hx hb dX12_fit_31 rfl (lv_at hl 0 rfl) ?_
      refine R_get (v := .int (hI σ1 40 0)) hx hb ht ui_X12 hown hK hB (by decide) (cell_8 rfl) rfl 0 (by decide) (ht _ tw916) (fun _ h9 => h9) rfl dX12_fit_32 ?_
      refine lv_icmp_ge (tgt := 65) hx hb dX12_fit_35 (by decide) (fun c_12 => ?_) (fun c_12 => ?_)
      · replace h := itp h c_12
        replace h := ex_eq h; obtain ⟨b1, h, hz1⟩ := h
        subst hz1
        have hz1 := (itk_inr hx1).symm
        subst hz1
        refine lv_iload hx hb dX12_fit_65 (lv_at hl 3 rfl) ?_
        obtain ⟨rfl, rfl⟩ := Prod.mk.inj (Option.some.inj h)
        exact W.iret hx hb hr (R_end hB) hB.2.2.2.2 dX12_fit_67
      · replace h := itn h c_12
        refine lv_aload_n hx hb dX12_fit_38 rfl (lv_at hl 0 rfl) ?_
        refine lv_iload hx hb dX12_fit_39 (lv_at hl 4 rfl) ?_
        refine lv_lload_n hx hb dX12_fit_41 rfl (lv_at hl 1 rfl) ?_
        replace h := b2_eq h; obtain ⟨r_13, s_14, hc_15, h⟩ := h
        refine R_call (rest := []) [.long r_13] (R_runV (n := 2) (As := [.int x6, .long x1]) ⟨hx, hb, hml, hown, ht⟩ (fun _ h9 => h9) hK hZ hA hB (c_X12_nextOf l g P σ1 x6 x1 H.size hc_15) (R_recv hK hB (by decide) (cell_8 rfl) rfl) tw1075 tw1072 tw1074 pw28 tw5 ⟨by decide, by decide, by decide⟩ rfl rfl ⟨Nat.le_of_ble_eq_true rfl, Nat.le_of_ble_eq_true rfl⟩ rfl hl.1 rfl (Nat.le_of_ble_eq_true rfl) dX12_fit_42 ⟨Nat.zero_le _, Nat.zero_le _⟩) hB hA rfl (fun H locs hB => ?_)
        refine lv_lload_n hx hb dX12_fit_45 rfl (lv_at hl 2 rfl) ?_
        refine W.lcmp hx hb dX12_fit_46 ?_
        refine lv_if_ne (tgt := 59) hx hb dX12_fit_47 (by decide) (fun c_16 => ?_) (fun c_16 => ?_)
        · replace h := itn h c_16
          exact hb_59 x5 x6 s_14 H locs ls h hB (lv_sub hl [0, 1, 2, 3, 4] rfl)
        · replace h := itp h c_16
          refine lv_iload hx hb dX12_fit_50 (lv_at hl 3 rfl) ?_
          refine lv_iconst (v := 1) hx hb dX12_fit_52 (by decide) ?_
          refine lv_iload hx hb dX12_fit_53 (lv_at hl 4 rfl) ?_
          refine lv_ishl hx hb dX12_fit_55 ?_
          refine lv_ior hx hb dX12_fit_56 ?_
          refine lv_istore (lv' := [(5, .int (x5 ||| ((1 : Int32) <<< (x6 &&& 31)))), (0, .ref (gL g 40)), (1, .long x1), (3, .long x3), (6, .int x6)]) hx hb dX12_fit_57 hl (by decide) rfl (fun ls hl => ?_)
          exact hb_59 (x5 ||| ((1 : Int32) <<< (x6 &&& 31))) x6 s_14 H locs ls h hB (lv_sub hl [1, 2, 3, 0, 4] rfl)
  suffices hmain : ∀ (H : Heap) (locs : List Loc) (ls : Array Slot), tB g P σ A s.heap H locs → lv_has ls 7 [(0, .ref (gL g 40)), (1, .long a1), (3, .long a3)] → WQ p l e { frames := 3, cells := 0, slots := 0, locals := 82 } s m args below meth c g P A (some (.int r)) τ H locs (F0 m 0 ls []) from hmain _ _ ls0 hB0 hl0
  intro H locs ls hB hl
  unfold f_X12_fit at h
  refine lv_aload_n hx hb dX12_fit_0 rfl (lv_at hl 0 rfl) ?_
  refine lv_lload_n hx hb dX12_fit_1 rfl (lv_at hl 1 rfl) ?_
  replace h := b2_eq h; obtain ⟨r_1, s_2, hc_3, h⟩ := h
  refine R_call (rest := []) [.int r_1] (R_runV (n := 1) (As := [.long a1]) ⟨hx, hb, hml, hown, ht⟩ (fun _ h9 => h9) hK hZ hA hB (c_X12_isNumber l g P σ a1 H.size hc_3) (R_recv hK hB (by decide) (cell_8 rfl) rfl) tw1177 tw1174 tw1176 pw45 tw5 ⟨by decide, by decide, by decide⟩ rfl rfl ⟨Nat.le_of_ble_eq_true rfl, Nat.le_of_ble_eq_true rfl⟩ rfl hl.1 rfl (Nat.le_of_ble_eq_true rfl) dX12_fit_2 ⟨Nat.zero_le _, Nat.zero_le _⟩) hB hA rfl (fun H locs hB => ?_)
  refine lv_if_eq (tgt := 16) hx hb dX12_fit_5 (by decide) (fun c_4 => ?_) (fun c_4 => ?_)
  · replace h := itp h c_4
    exact hb_16 s_2 H locs ls h hB (lv_sub hl [0] rfl)
  · replace h := itn h c_4
    refine lv_aload_n hx hb dX12_fit_8 rfl (lv_at hl 0 rfl) ?_
    refine lv_lload_n hx hb dX12_fit_9 rfl (lv_at hl 2 rfl) ?_
    replace h := b2_eq h; obtain ⟨r_8, s_9, hc_10, h⟩ := h
    refine R_call (rest := []) [.int r_8] (R_runV (n := 1) (As := [.long a3]) ⟨hx, hb, hml, hown, ht⟩ (fun _ h9 => h9) hK hZ hA hB (c_X12_isNumber l g P s_2 a3 H.size hc_10) (R_recv hK hB (by decide) (cell_8 rfl) rfl) tw1177 tw1174 tw1176 pw45 tw5 ⟨by decide, by decide, by decide⟩ rfl rfl ⟨Nat.le_of_ble_eq_true rfl, Nat.le_of_ble_eq_true rfl⟩ rfl hl.1 rfl (Nat.le_of_ble_eq_true rfl) dX12_fit_10 ⟨Nat.zero_le _, Nat.zero_le _⟩) hB hA rfl (fun H locs hB => ?_)
    refine lv_if_ne (tgt := 23) hx hb dX12_fit_13 (by decide) (fun c_11 => ?_) (fun c_11 => ?_)
    · replace h := itn h c_11
      refine lv_iconst (v := 0) hx hb dX12_fit_23 (by decide) ?_
      refine lv_istore (lv' := [(5, .int (0 : Int32)), (0, .ref (gL g 40)), (1, .long a1), (3, .long a3)]) hx hb dX12_fit_24 hl (by decide) rfl (fun ls hl => ?_)
      refine lv_iconst (v := 0) hx hb dX12_fit_26 (by decide) ?_
      refine lv_istore (lv' := [(6, .int (0 : Int32)), (5, .int (0 : Int32)), (0, .ref (gL g 40)), (1, .long a1), (3, .long a3)]) hx hb dX12_fit_27 hl (by decide) rfl (fun ls hl => ?_)
      exact hL_29 a1 a3 fuel (0 : Int32) (0 : Int32) s_9 H locs ls h hB (lv_sub hl [2, 3, 4, 1, 0] rfl)
    · replace h := itp h c_11
      exact hb_16 s_9 H locs ls h hB (lv_sub hl [0] rfl)
def f_X12_began_b48 (σ1 : Hp) : Option (Int32 × Hp) := b2 (f_X12_no (-6 : Int32) σ1) (fun r_10 s_11 => some (r_10, s_11))
def f_X12_began_b100 (x1 : Int32) (x2 : Int64) (x4 : Int32) (x5 : Int32) (x6 : Int32) (x7 : Int32) (σ1 : Hp) : Option ((Int32 × Int32 × Hp) ⊕ (Int32 × Hp)) := some (.inl (x6, (x7 + 1), σ1))
def f_X12_began_t61 (x1 : Int32) (x2 : Int64) (x4 : Int32) (x5 : Int32) (x6 : Int32) (x7 : Int32) (σ1 : Hp) : Option ((Int32 × Int32 × Hp) ⊕ (Int32 × Hp)) := if (10000 : Int32) ≤ x7 then ex (if x5 = (-1 : Int32) then some (x6, σ1) else b2 (f_X12_no (-5 : Int32) σ1) (fun r_17 s_18 => some (r_17, s_18))) else b2 (f_X12_afterOf x1 x7.toInt64 x4 σ1) (fun r_20 s_21 => if (lg_cmp r_20 x2) = 0 then if x6 = x5 then ex (some (x7, s_21)) else f_X12_began_b100 x1 x2 x4 x5 (x6 + 1) x7 s_21 else f_X12_began_b100 x1 x2 x4 x5 x6 x7 s_21)
def f_X12_began_s61 (x1 : Int32) (x2 : Int64) (x4 : Int32) (x5 : Int32) (v : (Int32 × Int32 × Hp)) : Option ((Int32 × Int32 × Hp) ⊕ (Int32 × Hp)) := f_X12_began_t61 x1 x2 x4 x5 v.1 v.2.1 v.2.2
def f_X12_began (a1 : Int32) (a2 : Int64) (a4 : Int32) (a5 : Int32) (σ : Hp) : Option (Int32 × Hp) := b2 (f_X12_isLaw a1 σ) (fun r_1 s_2 => if r_1 = 0 then b2 (f_X12_no (-1 : Int32) s_2) (fun r_28 s_29 => some (r_28, s_29)) else if (-1 : Int32) ≤ a5 then b2 (f_X12_isNumber a2 s_2) (fun r_6 s_7 => if r_6 = 0 then f_X12_began_b48 s_7 else if a4 < (1 : Int32) then f_X12_began_b48 s_7 else if a4 ≤ (20 : Int32) then iter (f_X12_began_s61 a1 a2 a4 a5) fuel ((0 : Int32), (0 : Int32), s_7) else f_X12_began_b48 s_7) else b2 (f_X12_no (-5 : Int32) s_2) (fun r_25 s_26 => some (r_25, s_26)))
set_option maxHeartbeats 4000000 in
set_option maxRecDepth 100000 in
theorem c_X12_began (l : Launch) (g : tG) (P : Nat → Nat) (σ : Hp) (a1 : Int32) (a2 : Int64) (a4 : Int32) (a5 : Int32) (sz : Nat) {r : Int32} {τ : Hp} (h : f_X12_began a1 a2 a4 a5 σ = some (r, τ)) : Met l yX12_began (Cond.code yX12_began cX12_began 8 (some .int) :: tblG) ({ frames := 4, cells := 0, slots := 0, locals := 109 }) (va_Pc [.ref (gL g 40), .int a1, .long a2, .int a4, .int a5] (tPre g P σ sz)) (tQ (some (.int r)) (tPost g P τ (va_A (wC g P σ) sz)) (va_A (wC g P σ) sz)) 0 0 (va_A (wC g P σ) sz) := by
  refine T_start (B := fun A => tPost g P τ A) (by decide) (Nat.le_of_ble_eq_true rfl) ?_
  intro p e s m args below meth c ls0 A hx hb hml hr hown hlocks ht hnm hK hZ hA hB0 hl0
  have hb_48 : ∀ (σ1 : Hp) (H : Heap) (locs : List Loc) (ls : Array Slot), f_X12_began_b48 σ1 = some (r, τ) → tB g P σ1 A s.heap H locs → lv_has ls 8 [(0, .ref (gL g 40))] → WQ p l e { frames := 4, cells := 0, slots := 0, locals := 109 } s m args below meth c g P A (some (.int r)) τ H locs (F0 m 48 ls []) := by
    intro σ1 H locs ls h hB hl
    unfold f_X12_began_b48 at h
    refine lv_aload_n hx hb dX12_began_48 rfl (lv_at hl 0 rfl) ?_
    refine lv_bipush (v := -6) hx hb dX12_began_49 (by decide) ?_
    replace h := b2_eq h; obtain ⟨r_10, s_11, hc_12, h⟩ := h
    refine R_call (rest := []) [.int r_10] (R_runV (n := 1) (As := [.int (-6 : Int32)]) ⟨hx, hb, hml, hown, ht⟩ (fun _ h9 => h9) hK hZ hA hB (c_X12_no l g P σ1 (-6 : Int32) H.size hc_12) (R_recv hK hB (by decide) (cell_8 rfl) rfl) tw1042 tw1039 tw1041 pw26 tw5 ⟨by decide, by decide, by decide⟩ rfl rfl ⟨Nat.le_of_ble_eq_true rfl, Nat.le_of_ble_eq_true rfl⟩ rfl hl.1 rfl (Nat.le_of_ble_eq_true rfl) dX12_began_51 ⟨Nat.zero_le _, Nat.zero_le _⟩) hB hA rfl (fun H locs hB => ?_)
    obtain ⟨rfl, rfl⟩ := Prod.mk.inj (Option.some.inj h)
    exact W.iret hx hb hr (R_end hB) hB.2.2.2.2 dX12_began_54
  have hL_61 : ∀ (x1 : Int32) (x2 : Int64) (x4 : Int32) (x5 : Int32) (n : Nat) (x6 : Int32) (x7 : Int32) (σ1 : Hp) (H : Heap) (locs : List Loc) (ls : Array Slot), iter (f_X12_began_s61 x1 x2 x4 x5) n (x6, x7, σ1) = some (r, τ) → tB g P σ1 A s.heap H locs → lv_has ls 8 [(0, .ref (gL g 40)), (1, .int x1), (2, .long x2), (4, .int x4), (5, .int x5), (6, .int x6), (7, .int x7)] → WQ p l e { frames := 4, cells := 0, slots := 0, locals := 109 } s m args below meth c g P A (some (.int r)) τ H locs (F0 m 61 ls []) := by
    intro x1 x2 x4 x5 n
    induction n with
    | zero =>
      intro x6 x7 σ1 H locs ls h hB hl
      exact (iter_0 h).elim
    | succ n ih1 =>
      intro x6 x7 σ1 H locs ls h hB hl
      replace h := iter_eq h; obtain ⟨z1, hh1, hx1⟩ := h
      have hb_100 : ∀ (x6 : Int32) (x7 : Int32) (σ1 : Hp) (H : Heap) (locs : List Loc) (ls : Array Slot), f_X12_began_b100 x1 x2 x4 x5 x6 x7 σ1 = some z1 → tB g P σ1 A s.heap H locs → lv_has ls 8 [(0, .ref (gL g 40)), (1, .int x1), (2, .long x2), (4, .int x4), (5, .int x5), (6, .int x6), (7, .int x7)] → WQ p l e { frames := 4, cells := 0, slots := 0, locals := 109 } s m args below meth c g P A (some (.int r)) τ H locs (F0 m 100 ls []) := by
        intro x6 x7 σ1 H locs ls h hB hl
        unfold f_X12_began_b100 at h
        refine lv_iinc (v := x7 + 1) (lv' := [(7, .int (x7 + 1)), (0, .ref (gL g 40)), (1, .int x1), (2, .long x2), (4, .int x4), (5, .int x5), (6, .int x6)]) hx hb dX12_began_100 hl (k := 6) rfl rfl (by decide) rfl (fun ls hl => ?_)
        refine lv_goto (tgt := 61) hx hb dX12_began_103 (by decide) ?_
        obtain rfl := Option.some.inj h
        exact ih1 x6 (x7 + 1) σ1 H locs ls hx1 hB (lv_sub hl [1, 2, 3, 4, 5, 6, 0] rfl)
      have h : f_X12_began_t61 x1 x2 x4 x5 x6 x7 σ1 = some z1 := hh1
      clear hh1
      unfold f_X12_began_t61 at h
      refine lv_iload hx hb dX12_began_61 (lv_at hl 6 rfl) ?_
      refine lv_sipush (v := 10000) hx hb dX12_began_63 (by decide) ?_
      refine lv_icmp_ge (tgt := 106) hx hb dX12_began_66 (by decide) (fun c_15 => ?_) (fun c_15 => ?_)
      · replace h := itp h c_15
        replace h := ex_eq h; obtain ⟨b1, h, hz1⟩ := h
        subst hz1
        have hz1 := (itk_inr hx1).symm
        subst hz1
        refine lv_iload hx hb dX12_began_106 (lv_at hl 4 rfl) ?_
        refine lv_iconst (v := -1) hx hb dX12_began_108 (by decide) ?_
        refine lv_icmp_ne (tgt := 117) hx hb dX12_began_109 (by decide) (fun c_16 => ?_) (fun c_16 => ?_)
        · replace h := itn h c_16
          refine lv_aload_n hx hb dX12_began_117 rfl (lv_at hl 0 rfl) ?_
          refine lv_bipush (v := -5) hx hb dX12_began_118 (by decide) ?_
          replace h := b2_eq h; obtain ⟨r_17, s_18, hc_19, h⟩ := h
          refine R_call (rest := []) [.int r_17] (R_runV (n := 1) (As := [.int (-5 : Int32)]) ⟨hx, hb, hml, hown, ht⟩ (fun _ h9 => h9) hK hZ hA hB (c_X12_no l g P σ1 (-5 : Int32) H.size hc_19) (R_recv hK hB (by decide) (cell_8 rfl) rfl) tw1042 tw1039 tw1041 pw26 tw5 ⟨by decide, by decide, by decide⟩ rfl rfl ⟨Nat.le_of_ble_eq_true rfl, Nat.le_of_ble_eq_true rfl⟩ rfl hl.1 rfl (Nat.le_of_ble_eq_true rfl) dX12_began_120 ⟨Nat.zero_le _, Nat.zero_le _⟩) hB hA rfl (fun H locs hB => ?_)
          obtain ⟨rfl, rfl⟩ := Prod.mk.inj (Option.some.inj h)
          exact W.iret hx hb hr (R_end hB) hB.2.2.2.2 dX12_began_123
        · replace h := itp h c_16
          refine lv_iload hx hb dX12_began_112 (lv_at hl 5 rfl) ?_
          refine lv_goto (tgt := 123) hx hb dX12_began_114 (by decide) ?_
          obtain ⟨rfl, rfl⟩ := Prod.mk.inj (Option.some.inj h)
          exact W.iret hx hb hr (R_end hB) hB.2.2.2.2 dX12_began_123
      · replace h := itn h c_15
        refine lv_aload_n hx hb dX12_began_69 rfl (lv_at hl 0 rfl) ?_
        refine lv_iload_n hx hb dX12_began_70 rfl (lv_at hl 1 rfl) ?_
        refine lv_iload hx hb dX12_began_71 (lv_at hl 6 rfl) ?_
        refine lv_i2l (v := x7.toInt64) hx hb dX12_began_73 rfl ?_
        refine lv_iload hx hb dX12_began_74 (lv_at hl 3 rfl) ?_
        replace h := b2_eq h; obtain ⟨r_20, s_21, hc_22, h⟩ := h
        refine R_call (rest := []) [.long r_20] (R_runV (n := 3) (As := [.int x1, .long x7.toInt64, .int x4]) ⟨hx, hb, hml, hown, ht⟩ (fun _ h9 => h9) hK hZ hA hB (c_X12_afterOf l g P σ1 x1 x7.toInt64 x4 H.size hc_22) (R_recv hK hB (by decide) (cell_8 rfl) rfl) tw1201 tw1198 tw1200 pw48 tw5 ⟨by decide, by decide, by decide⟩ rfl rfl ⟨Nat.le_of_ble_eq_true rfl, Nat.le_of_ble_eq_true rfl⟩ rfl hl.1 rfl (Nat.le_of_ble_eq_true rfl) dX12_began_76 ⟨Nat.zero_le _, Nat.zero_le _⟩) hB hA rfl (fun H locs hB => ?_)
        refine lv_lload_n hx hb dX12_began_79 rfl (lv_at hl 2 rfl) ?_
        refine W.lcmp hx hb dX12_began_80 ?_
        refine lv_if_eq (tgt := 87) hx hb dX12_began_81 (by decide) (fun c_23 => ?_) (fun c_23 => ?_)
        · replace h := itp h c_23
          refine lv_iload hx hb dX12_began_87 (lv_at hl 5 rfl) ?_
          refine lv_iload hx hb dX12_began_89 (lv_at hl 4 rfl) ?_
          refine lv_icmp_ne (tgt := 97) hx hb dX12_began_91 (by decide) (fun c_24 => ?_) (fun c_24 => ?_)
          · replace h := itn h c_24
            refine lv_iinc (v := x6 + 1) (lv' := [(6, .int (x6 + 1)), (0, .ref (gL g 40)), (1, .int x1), (2, .long x2), (4, .int x4), (5, .int x5), (7, .int x7)]) hx hb dX12_began_97 hl (k := 5) rfl rfl (by decide) rfl (fun ls hl => ?_)
            exact hb_100 (x6 + 1) x7 s_21 H locs ls h hB (lv_sub hl [1, 2, 3, 4, 5, 0, 6] rfl)
          · replace h := itp h c_24
            replace h := ex_eq h; obtain ⟨b1, h, hz1⟩ := h
            subst hz1
            have hz1 := (itk_inr hx1).symm
            subst hz1
            refine lv_iload hx hb dX12_began_94 (lv_at hl 6 rfl) ?_
            obtain ⟨rfl, rfl⟩ := Prod.mk.inj (Option.some.inj h)
            exact W.iret hx hb hr (R_end hB) hB.2.2.2.2 dX12_began_96
        · replace h := itn h c_23
          refine lv_goto (tgt := 100) hx hb dX12_began_84 (by decide) ?_
          exact hb_100 x6 x7 s_21 H locs ls h hB (lv_sub hl [0, 1, 2, 3, 4, 5, 6] rfl)
  suffices hmain : ∀ (H : Heap) (locs : List Loc) (ls : Array Slot), tB g P σ A s.heap H locs → lv_has ls 8 [(0, .ref (gL g 40)), (1, .int a1), (2, .long a2), (4, .int a4), (5, .int a5)] → WQ p l e { frames := 4, cells := 0, slots := 0, locals := 109 } s m args below meth c g P A (some (.int r)) τ H locs (F0 m 0 ls []) from hmain _ _ ls0 hB0 hl0
  intro H locs ls hB hl
  unfold f_X12_began at h
  refine lv_aload_n hx hb dX12_began_0 rfl (lv_at hl 0 rfl) ?_
  refine lv_iload_n hx hb dX12_began_1 rfl (lv_at hl 1 rfl) ?_
  replace h := b2_eq h; obtain ⟨r_1, s_2, hc_3, h⟩ := h
  refine R_call (rest := []) [.int r_1] (R_runV (n := 1) (As := [.int a1]) ⟨hx, hb, hml, hown, ht⟩ (fun _ h9 => h9) hK hZ hA hB (c_X12_isLaw l g P σ a1 H.size hc_3) (R_recv hK hB (by decide) (cell_8 rfl) rfl) tw1062 tw1059 tw1061 pw27 tw5 ⟨by decide, by decide, by decide⟩ rfl rfl ⟨Nat.le_of_ble_eq_true rfl, Nat.le_of_ble_eq_true rfl⟩ rfl hl.1 rfl (Nat.le_of_ble_eq_true rfl) dX12_began_2 ⟨Nat.zero_le _, Nat.zero_le _⟩) hB hA rfl (fun H locs hB => ?_)
  refine lv_if_ne (tgt := 14) hx hb dX12_began_5 (by decide) (fun c_4 => ?_) (fun c_4 => ?_)
  · replace h := itn h c_4
    refine lv_iload hx hb dX12_began_14 (lv_at hl 4 rfl) ?_
    refine lv_iconst (v := -1) hx hb dX12_began_16 (by decide) ?_
    refine lv_icmp_ge (tgt := 27) hx hb dX12_began_17 (by decide) (fun c_5 => ?_) (fun c_5 => ?_)
    · replace h := itp h c_5
      refine lv_aload_n hx hb dX12_began_27 rfl (lv_at hl 0 rfl) ?_
      refine lv_lload_n hx hb dX12_began_28 rfl (lv_at hl 2 rfl) ?_
      replace h := b2_eq h; obtain ⟨r_6, s_7, hc_8, h⟩ := h
      refine R_call (rest := []) [.int r_6] (R_runV (n := 1) (As := [.long a2]) ⟨hx, hb, hml, hown, ht⟩ (fun _ h9 => h9) hK hZ hA hB (c_X12_isNumber l g P s_2 a2 H.size hc_8) (R_recv hK hB (by decide) (cell_8 rfl) rfl) tw1177 tw1174 tw1176 pw45 tw5 ⟨by decide, by decide, by decide⟩ rfl rfl ⟨Nat.le_of_ble_eq_true rfl, Nat.le_of_ble_eq_true rfl⟩ rfl hl.1 rfl (Nat.le_of_ble_eq_true rfl) dX12_began_29 ⟨Nat.zero_le _, Nat.zero_le _⟩) hB hA rfl (fun H locs hB => ?_)
      refine lv_if_eq (tgt := 48) hx hb dX12_began_32 (by decide) (fun c_9 => ?_) (fun c_9 => ?_)
      · replace h := itp h c_9
        exact hb_48 s_7 H locs ls h hB (lv_sub hl [0] rfl)
      · replace h := itn h c_9
        refine lv_iload hx hb dX12_began_35 (lv_at hl 3 rfl) ?_
        refine lv_iconst (v := 1) hx hb dX12_began_37 (by decide) ?_
        refine lv_icmp_lt (tgt := 48) hx hb dX12_began_38 (by decide) (fun c_13 => ?_) (fun c_13 => ?_)
        · replace h := itp h c_13
          exact hb_48 s_7 H locs ls h hB (lv_sub hl [0] rfl)
        · replace h := itn h c_13
          refine lv_iload hx hb dX12_began_41 (lv_at hl 3 rfl) ?_
          refine lv_bipush (v := 20) hx hb dX12_began_43 (by decide) ?_
          refine lv_icmp_le (tgt := 55) hx hb dX12_began_45 (by decide) (fun c_14 => ?_) (fun c_14 => ?_)
          · replace h := itp h c_14
            refine lv_iconst (v := 0) hx hb dX12_began_55 (by decide) ?_
            refine lv_istore (lv' := [(6, .int (0 : Int32)), (0, .ref (gL g 40)), (1, .int a1), (2, .long a2), (4, .int a4), (5, .int a5)]) hx hb dX12_began_56 hl (by decide) rfl (fun ls hl => ?_)
            refine lv_iconst (v := 0) hx hb dX12_began_58 (by decide) ?_
            refine lv_istore (lv' := [(7, .int (0 : Int32)), (6, .int (0 : Int32)), (0, .ref (gL g 40)), (1, .int a1), (2, .long a2), (4, .int a4), (5, .int a5)]) hx hb dX12_began_59 hl (by decide) rfl (fun ls hl => ?_)
            exact hL_61 a1 a2 a4 a5 fuel (0 : Int32) (0 : Int32) s_7 H locs ls h hB (lv_sub hl [2, 3, 4, 5, 6, 1, 0] rfl)
          · replace h := itn h c_14
            exact hb_48 s_7 H locs ls h hB (lv_sub hl [0] rfl)
    · replace h := itn h c_5
      refine lv_aload_n hx hb dX12_began_20 rfl (lv_at hl 0 rfl) ?_
      refine lv_bipush (v := -5) hx hb dX12_began_21 (by decide) ?_
      replace h := b2_eq h; obtain ⟨r_25, s_26, hc_27, h⟩ := h
      refine R_call (rest := []) [.int r_25] (R_runV (n := 1) (As := [.int (-5 : Int32)]) ⟨hx, hb, hml, hown, ht⟩ (fun _ h9 => h9) hK hZ hA hB (c_X12_no l g P s_2 (-5 : Int32) H.size hc_27) (R_recv hK hB (by decide) (cell_8 rfl) rfl) tw1042 tw1039 tw1041 pw26 tw5 ⟨by decide, by decide, by decide⟩ rfl rfl ⟨Nat.le_of_ble_eq_true rfl, Nat.le_of_ble_eq_true rfl⟩ rfl hl.1 rfl (Nat.le_of_ble_eq_true rfl) dX12_began_23 ⟨Nat.zero_le _, Nat.zero_le _⟩) hB hA rfl (fun H locs hB => ?_)
      obtain ⟨rfl, rfl⟩ := Prod.mk.inj (Option.some.inj h)
      exact W.iret hx hb hr (R_end hB) hB.2.2.2.2 dX12_began_26
  · replace h := itp h c_4
    refine lv_aload_n hx hb dX12_began_8 rfl (lv_at hl 0 rfl) ?_
    refine lv_iconst (v := -1) hx hb dX12_began_9 (by decide) ?_
    replace h := b2_eq h; obtain ⟨r_28, s_29, hc_30, h⟩ := h
    refine R_call (rest := []) [.int r_28] (R_runV (n := 1) (As := [.int (-1 : Int32)]) ⟨hx, hb, hml, hown, ht⟩ (fun _ h9 => h9) hK hZ hA hB (c_X12_no l g P s_2 (-1 : Int32) H.size hc_30) (R_recv hK hB (by decide) (cell_8 rfl) rfl) tw1042 tw1039 tw1041 pw26 tw5 ⟨by decide, by decide, by decide⟩ rfl rfl ⟨Nat.le_of_ble_eq_true rfl, Nat.le_of_ble_eq_true rfl⟩ rfl hl.1 rfl (Nat.le_of_ble_eq_true rfl) dX12_began_10 ⟨Nat.zero_le _, Nat.zero_le _⟩) hB hA rfl (fun H locs hB => ?_)
    obtain ⟨rfl, rfl⟩ := Prod.mk.inj (Option.some.inj h)
    exact W.iret hx hb hr (R_end hB) hB.2.2.2.2 dX12_began_13
def f_X12_slip_b16 (σ1 : Hp) : Option (Int32 × Hp) := b2 (f_X12_noTen (-6 : Int32) σ1) (fun r_9 s_10 => some (r_9, s_10))
def f_X12_slip_t38 (x5 : Int64) (x7 : Int64) (x9 : Int32) (σ1 : Hp) : Option ((Int64 × Int64 × Int32 × Hp) ⊕ (Int32 × Hp)) := if (lg_cmp x5 x7) = 0 then ex (some ((-1 : Int32), σ1)) else ck (¬ ((hI σ1 40 2).toInt64) = 0) (if (lg_cmp (x5 - x5 / (hI σ1 40 2).toInt64 * (hI σ1 40 2).toInt64) (x7 - x7 / (hI σ1 40 2).toInt64 * (hI σ1 40 2).toInt64)) = 0 then some (.inl ((x5 / (hI σ1 40 2).toInt64), (x7 / (hI σ1 40 2).toInt64), (x9 + 1), σ1)) else ex (some (x9, σ1)))
def f_X12_slip_s38 (v : (Int64 × Int64 × Int32 × Hp)) : Option ((Int64 × Int64 × Int32 × Hp) ⊕ (Int32 × Hp)) := f_X12_slip_t38 v.1 v.2.1 v.2.2.1 v.2.2.2
def f_X12_slip (a1 : Int64) (a3 : Int64) (σ : Hp) : Option (Int32 × Hp) := b2 (f_X12_isNumber a1 σ) (fun r_5 s_6 => if r_5 = 0 then f_X12_slip_b16 s_6 else b2 (f_X12_isNumber a3 s_6) (fun r_12 s_13 => if r_12 = 0 then f_X12_slip_b16 s_13 else b2 (f_X12_turnedOf a1 s_13) (fun r_16 s_17 => iter (f_X12_slip_s38) fuel ((a1 + r_16), a3, (0 : Int32), s_17))))
set_option maxHeartbeats 4000000 in
set_option maxRecDepth 100000 in
theorem c_X12_slip (l : Launch) (g : tG) (P : Nat → Nat) (σ : Hp) (a1 : Int64) (a3 : Int64) (sz : Nat) {r : Int32} {τ : Hp} (h : f_X12_slip a1 a3 σ = some (r, τ)) : Met l yX12_slip (Cond.code yX12_slip cX12_slip 10 (some .int) :: tblG) ({ frames := 1, cells := 0, slots := 0, locals := 26 }) (va_Pc [.ref (gL g 40), .long a1, .long a3] (tPre g P σ sz)) (tQ (some (.int r)) (tPost g P τ (va_A (wC g P σ) sz)) (va_A (wC g P σ) sz)) 0 0 (va_A (wC g P σ) sz) := by
  refine T_start (B := fun A => tPost g P τ A) (by decide) (Nat.le_of_ble_eq_true rfl) ?_
  intro p e s m args below meth c ls0 A hx hb hml hr hown hlocks ht hnm hK hZ hA hB0 hl0
  have hb_16 : ∀ (σ1 : Hp) (H : Heap) (locs : List Loc) (ls : Array Slot), f_X12_slip_b16 σ1 = some (r, τ) → tB g P σ1 A s.heap H locs → lv_has ls 10 [(0, .ref (gL g 40))] → WQ p l e { frames := 1, cells := 0, slots := 0, locals := 26 } s m args below meth c g P A (some (.int r)) τ H locs (F0 m 16 ls []) := by
    intro σ1 H locs ls h hB hl
    unfold f_X12_slip_b16 at h
    refine lv_aload_n hx hb dX12_slip_16 rfl (lv_at hl 0 rfl) ?_
    refine lv_bipush (v := -6) hx hb dX12_slip_17 (by decide) ?_
    replace h := b2_eq h; obtain ⟨r_9, s_10, hc_11, h⟩ := h
    refine R_call (rest := []) [.int r_9] (R_runV (n := 1) (As := [.int (-6 : Int32)]) ⟨hx, hb, hml, hown, ht⟩ (fun _ h9 => h9) hK hZ hA hB (c_X12_noTen l g P σ1 (-6 : Int32) H.size hc_11) (R_recv hK hB (by decide) (cell_8 rfl) rfl) tw1209 tw1206 tw1208 pw49 tw5 ⟨by decide, by decide, by decide⟩ rfl rfl ⟨Nat.le_of_ble_eq_true rfl, Nat.le_of_ble_eq_true rfl⟩ rfl hl.1 rfl (Nat.le_of_ble_eq_true rfl) dX12_slip_19 ⟨Nat.zero_le _, Nat.zero_le _⟩) hB hA rfl (fun H locs hB => ?_)
    obtain ⟨rfl, rfl⟩ := Prod.mk.inj (Option.some.inj h)
    exact W.iret hx hb hr (R_end hB) hB.2.2.2.2 dX12_slip_22
  have hL_38 : ∀ (n : Nat) (x5 : Int64) (x7 : Int64) (x9 : Int32) (σ1 : Hp) (H : Heap) (locs : List Loc) (ls : Array Slot), iter (f_X12_slip_s38) n (x5, x7, x9, σ1) = some (r, τ) → tB g P σ1 A s.heap H locs → lv_has ls 10 [(0, .ref (gL g 40)), (5, .long x5), (7, .long x7), (9, .int x9)] → WQ p l e { frames := 1, cells := 0, slots := 0, locals := 26 } s m args below meth c g P A (some (.int r)) τ H locs (F0 m 38 ls []) := by
    intro n
    induction n with
    | zero =>
      intro x5 x7 x9 σ1 H locs ls h hB hl
      exact (iter_0 h).elim
    | succ n ih1 =>
      intro x5 x7 x9 σ1 H locs ls h hB hl
      replace h := iter_eq h; obtain ⟨z1, hh1, hx1⟩ := h
      have h : f_X12_slip_t38 x5 x7 x9 σ1 = some z1 := hh1
      clear hh1
      unfold f_X12_slip_t38 at h
      refine lv_lload hx hb dX12_slip_38 (lv_at hl 1 rfl) ?_
      refine lv_lload hx hb dX12_slip_40 (lv_at hl 2 rfl) ?_
      refine W.lcmp hx hb dX12_slip_42 ?_
      refine lv_if_eq (tgt := 95) hx hb dX12_slip_43 (by decide) (fun c_19 => ?_) (fun c_19 => ?_)
      · replace h := itp h c_19
        replace h := ex_eq h; obtain ⟨b1, h, hz1⟩ := h
        subst hz1
        have hz1 := (itk_inr hx1).symm
        subst hz1
        refine lv_iconst (v := -1) hx hb dX12_slip_95 (by decide) ?_
        obtain ⟨rfl, rfl⟩ := Prod.mk.inj (Option.some.inj h)
        exact W.iret hx hb hr (R_end hB) hB.2.2.2.2 dX12_slip_96
      · replace h := itn h c_19
        refine lv_lload hx hb dX12_slip_46 (lv_at hl 1 rfl) ?_
        refine lv_aload_n hx hb dX12_slip_48 rfl (lv_at hl 0 rfl) ?_
        refine R_get (v := .int (hI σ1 40 2)) hx hb ht ui_X12 hown hK hB (by decide) (cell_8 rfl) rfl 2 (by decide) (ht _ tw918) (fun _ h9 => h9) rfl dX12_slip_49 ?_
        refine lv_i2l (v := (hI σ1 40 2).toInt64) hx hb dX12_slip_52 rfl ?_
        replace h := ck_eq h; obtain ⟨q_20, h⟩ := h
        refine lv_lrem hx hb dX12_slip_53 q_20 ?_
        refine lv_lload hx hb dX12_slip_54 (lv_at hl 2 rfl) ?_
        refine lv_aload_n hx hb dX12_slip_56 rfl (lv_at hl 0 rfl) ?_
        refine R_get (v := .int (hI σ1 40 2)) hx hb ht ui_X12 hown hK hB (by decide) (cell_8 rfl) rfl 2 (by decide) (ht _ tw918) (fun _ h9 => h9) rfl dX12_slip_57 ?_
        refine lv_i2l (v := (hI σ1 40 2).toInt64) hx hb dX12_slip_60 rfl ?_
        refine lv_lrem hx hb dX12_slip_61 q_20 ?_
        refine W.lcmp hx hb dX12_slip_62 ?_
        refine lv_if_eq (tgt := 69) hx hb dX12_slip_63 (by decide) (fun c_21 => ?_) (fun c_21 => ?_)
        · replace h := itp h c_21
          refine lv_lload hx hb dX12_slip_69 (lv_at hl 1 rfl) ?_
          refine lv_aload_n hx hb dX12_slip_71 rfl (lv_at hl 0 rfl) ?_
          refine R_get (v := .int (hI σ1 40 2)) hx hb ht ui_X12 hown hK hB (by decide) (cell_8 rfl) rfl 2 (by decide) (ht _ tw918) (fun _ h9 => h9) rfl dX12_slip_72 ?_
          refine lv_i2l (v := (hI σ1 40 2).toInt64) hx hb dX12_slip_75 rfl ?_
          refine lv_ldiv hx hb dX12_slip_76 q_20 ?_
          refine lv_lstore (lv' := [(5, .long (x5 / (hI σ1 40 2).toInt64)), (0, .ref (gL g 40)), (7, .long x7), (9, .int x9)]) hx hb dX12_slip_77 hl (by decide) rfl (fun ls hl => ?_)
          refine lv_lload hx hb dX12_slip_79 (lv_at hl 2 rfl) ?_
          refine lv_aload_n hx hb dX12_slip_81 rfl (lv_at hl 1 rfl) ?_
          refine R_get (v := .int (hI σ1 40 2)) hx hb ht ui_X12 hown hK hB (by decide) (cell_8 rfl) rfl 2 (by decide) (ht _ tw918) (fun _ h9 => h9) rfl dX12_slip_82 ?_
          refine lv_i2l (v := (hI σ1 40 2).toInt64) hx hb dX12_slip_85 rfl ?_
          refine lv_ldiv hx hb dX12_slip_86 q_20 ?_
          refine lv_lstore (lv' := [(7, .long (x7 / (hI σ1 40 2).toInt64)), (5, .long (x5 / (hI σ1 40 2).toInt64)), (0, .ref (gL g 40)), (9, .int x9)]) hx hb dX12_slip_87 hl (by decide) rfl (fun ls hl => ?_)
          refine lv_iinc (v := x9 + 1) (lv' := [(9, .int (x9 + 1)), (7, .long (x7 / (hI σ1 40 2).toInt64)), (5, .long (x5 / (hI σ1 40 2).toInt64)), (0, .ref (gL g 40))]) hx hb dX12_slip_89 hl (k := 3) rfl rfl (by decide) rfl (fun ls hl => ?_)
          refine lv_goto (tgt := 38) hx hb dX12_slip_92 (by decide) ?_
          obtain rfl := Option.some.inj h
          exact ih1 (x5 / (hI σ1 40 2).toInt64) (x7 / (hI σ1 40 2).toInt64) (x9 + 1) σ1 H locs ls hx1 hB (lv_sub hl [3, 2, 1, 0] rfl)
        · replace h := itn h c_21
          replace h := ex_eq h; obtain ⟨b1, h, hz1⟩ := h
          subst hz1
          have hz1 := (itk_inr hx1).symm
          subst hz1
          refine lv_iload hx hb dX12_slip_66 (lv_at hl 3 rfl) ?_
          obtain ⟨rfl, rfl⟩ := Prod.mk.inj (Option.some.inj h)
          exact W.iret hx hb hr (R_end hB) hB.2.2.2.2 dX12_slip_68
  suffices hmain : ∀ (H : Heap) (locs : List Loc) (ls : Array Slot), tB g P σ A s.heap H locs → lv_has ls 10 [(0, .ref (gL g 40)), (1, .long a1), (3, .long a3)] → WQ p l e { frames := 1, cells := 0, slots := 0, locals := 26 } s m args below meth c g P A (some (.int r)) τ H locs (F0 m 0 ls []) from hmain _ _ ls0 hB0 hl0
  intro H locs ls hB hl
  unfold f_X12_slip at h
  refine lv_aload_n hx hb dX12_slip_0 rfl (lv_at hl 0 rfl) ?_
  refine lv_lload_n hx hb dX12_slip_1 rfl (lv_at hl 1 rfl) ?_
  replace h := b2_eq h; obtain ⟨r_5, s_6, hc_7, h⟩ := h
  refine R_call (rest := []) [.int r_5] (R_runV (n := 1) (As := [.long a1]) ⟨hx, hb, hml, hown, ht⟩ (fun _ h9 => h9) hK hZ hA hB (c_X12_isNumber l g P σ a1 H.size hc_7) (R_recv hK hB (by decide) (cell_8 rfl) rfl) tw1177 tw1174 tw1176 pw45 tw5 ⟨by decide, by decide, by decide⟩ rfl rfl ⟨Nat.le_of_ble_eq_true rfl, Nat.le_of_ble_eq_true rfl⟩ rfl hl.1 rfl (Nat.le_of_ble_eq_true rfl) dX12_slip_2 ⟨Nat.zero_le _, Nat.zero_le _⟩) hB hA rfl (fun H locs hB => ?_)
  refine lv_if_eq (tgt := 16) hx hb dX12_slip_5 (by decide) (fun c_8 => ?_) (fun c_8 => ?_)
  · replace h := itp h c_8
    exact hb_16 s_6 H locs ls h hB (lv_sub hl [0] rfl)
  · replace h := itn h c_8
    refine lv_aload_n hx hb dX12_slip_8 rfl (lv_at hl 0 rfl) ?_
    refine lv_lload_n hx hb dX12_slip_9 rfl (lv_at hl 2 rfl) ?_
    replace h := b2_eq h; obtain ⟨r_12, s_13, hc_14, h⟩ := h
    refine R_call (rest := []) [.int r_12] (R_runV (n := 1) (As := [.long a3]) ⟨hx, hb, hml, hown, ht⟩ (fun _ h9 => h9) hK hZ hA hB (c_X12_isNumber l g P s_6 a3 H.size hc_14) (R_recv hK hB (by decide) (cell_8 rfl) rfl) tw1177 tw1174 tw1176 pw45 tw5 ⟨by decide, by decide, by decide⟩ rfl rfl ⟨Nat.le_of_ble_eq_true rfl, Nat.le_of_ble_eq_true rfl⟩ rfl hl.1 rfl (Nat.le_of_ble_eq_true rfl) dX12_slip_10 ⟨Nat.zero_le _, Nat.zero_le _⟩) hB hA rfl (fun H locs hB => ?_)
    refine lv_if_ne (tgt := 23) hx hb dX12_slip_13 (by decide) (fun c_15 => ?_) (fun c_15 => ?_)
    · replace h := itn h c_15
      refine lv_lload_n hx hb dX12_slip_23 rfl (lv_at hl 1 rfl) ?_
      refine lv_aload_n hx hb dX12_slip_24 rfl (lv_at hl 0 rfl) ?_
      refine lv_lload_n hx hb dX12_slip_25 rfl (lv_at hl 1 rfl) ?_
      replace h := b2_eq h; obtain ⟨r_16, s_17, hc_18, h⟩ := h
      refine R_call (rest := [.long a1]) [.long r_16, .long a1] (R_runV (n := 1) (As := [.long a1]) ⟨hx, hb, hml, hown, ht⟩ (fun _ h9 => h9) hK hZ hA hB (c_X12_turnedOf l g P s_13 a1 H.size hc_18) (R_recv hK hB (by decide) (cell_8 rfl) rfl) tw1079 tw1076 tw1078 pw29 tw5 ⟨by decide, by decide, by decide⟩ rfl rfl ⟨Nat.le_of_ble_eq_true rfl, Nat.le_of_ble_eq_true rfl⟩ rfl hl.1 rfl (Nat.le_of_ble_eq_true rfl) dX12_slip_26 ⟨Nat.zero_le _, Nat.zero_le _⟩) hB hA rfl (fun H locs hB => ?_)
      refine lv_ladd hx hb dX12_slip_29 ?_
      refine lv_lstore (lv' := [(5, .long (a1 + r_16)), (0, .ref (gL g 40)), (1, .long a1), (3, .long a3)]) hx hb dX12_slip_30 hl (by decide) rfl (fun ls hl => ?_)
      refine lv_lload_n hx hb dX12_slip_32 rfl (lv_at hl 3 rfl) ?_
      refine lv_lstore (lv' := [(7, .long a3), (5, .long (a1 + r_16)), (0, .ref (gL g 40)), (1, .long a1), (3, .long a3)]) hx hb dX12_slip_33 hl (by decide) rfl (fun ls hl => ?_)
      refine lv_iconst (v := 0) hx hb dX12_slip_35 (by decide) ?_
      refine lv_istore (lv' := [(9, .int (0 : Int32)), (7, .long a3), (5, .long (a1 + r_16)), (0, .ref (gL g 40)), (1, .long a1), (3, .long a3)]) hx hb dX12_slip_36 hl (by decide) rfl (fun ls hl => ?_)
      exact hL_38 fuel (a1 + r_16) a3 (0 : Int32) s_17 H locs ls h hB (lv_sub hl [3, 2, 1, 0] rfl)
    · replace h := itp h c_15
      exact hb_16 s_13 H locs ls h hB (lv_sub hl [0] rfl)
def f_X12_missed_b143 (x1 : Int64) (x3 : Int32) (x4 : Int32) (x5 : Int64) (x7 : Int32) (x8 : Int32) (σ1 : Hp) : Option ((Int32 × Int32 × Hp) ⊕ ((Int32 × Int64 × Int32 × Hp) ⊕ (Int32 × Hp))) := some (.inl (x4, (x8 + 1), σ1))
def f_X12_missed_b83 (x1 : Int64) (x3 : Int32) (x4 : Int32) (x5 : Int64) (x7 : Int32) (x8 : Int32) (xt0 : Int32) (σ1 : Hp) : Option ((Int32 × Int32 × Hp) ⊕ ((Int32 × Int64 × Int32 × Hp) ⊕ (Int32 × Hp))) := ck (inb x7 64 = true) (if xt0 = 0 then f_X12_missed_b143 x1 x3 x4 x5 x7 x8 σ1 else if 0 < (lg_cmp (x1 + ((x8 - (hI σ1 67 x7.toNatClampNeg)).toInt64 * x5)) (999999999999999 : Int64)) then f_X12_missed_b143 x1 x3 x4 x5 x7 x8 σ1 else ck (¬ (hI σ1 40 2) = 0) (if (((x8 - (hI σ1 67 x7.toNatClampNeg)) * (x7 + (1 : Int32))) - ((x8 - (hI σ1 67 x7.toNatClampNeg)) * (x7 + (1 : Int32))) / (hI σ1 40 2) * (hI σ1 40 2)) = 0 then f_X12_missed_b143 x1 x3 (x4 + 1) x5 x7 x8 σ1 else f_X12_missed_b143 x1 x3 x4 x5 x7 x8 σ1))
def f_X12_missed_b82 (x1 : Int64) (x3 : Int32) (x4 : Int32) (x5 : Int64) (x7 : Int32) (x8 : Int32) (σ1 : Hp) : Option ((Int32 × Int32 × Hp) ⊕ ((Int32 × Int64 × Int32 × Hp) ⊕ (Int32 × Hp))) := f_X12_missed_b83 x1 x3 x4 x5 x7 x8 (0 : Int32) σ1
def f_X12_missed_b78 (x1 : Int64) (x3 : Int32) (x4 : Int32) (x5 : Int64) (x7 : Int32) (x8 : Int32) (σ1 : Hp) : Option ((Int32 × Int32 × Hp) ⊕ ((Int32 × Int64 × Int32 × Hp) ⊕ (Int32 × Hp))) := f_X12_missed_b83 x1 x3 x4 x5 x7 x8 (1 : Int32) σ1
def f_X12_missed_t39 (x1 : Int64) (x3 : Int32) (x5 : Int64) (x7 : Int32) (x4 : Int32) (x8 : Int32) (σ1 : Hp) : Option ((Int32 × Int32 × Hp) ⊕ ((Int32 × Int64 × Int32 × Hp) ⊕ (Int32 × Hp))) := if (hI σ1 40 2) ≤ x8 then ex (some (.inl (x4, (x5 * (hI σ1 40 2).toInt64), (x7 + 1), σ1))) else ck (inb x7 64 = true) (if x8 = (hI σ1 67 x7.toNatClampNeg) then f_X12_missed_b82 x1 x3 x4 x5 x7 x8 σ1 else if 0 < x8 then f_X12_missed_b78 x1 x3 x4 x5 x7 x8 σ1 else if x7 < (x3 - (1 : Int32)) then f_X12_missed_b78 x1 x3 x4 x5 x7 x8 σ1 else if x3 = (1 : Int32) then f_X12_missed_b78 x1 x3 x4 x5 x7 x8 σ1 else f_X12_missed_b82 x1 x3 x4 x5 x7 x8 σ1)
def f_X12_missed_s39 (x1 : Int64) (x3 : Int32) (x5 : Int64) (x7 : Int32) (v : (Int32 × Int32 × Hp)) : Option ((Int32 × Int32 × Hp) ⊕ ((Int32 × Int64 × Int32 × Hp) ⊕ (Int32 × Hp))) := f_X12_missed_t39 x1 x3 x5 x7 v.1 v.2.1 v.2.2
def f_X12_missed_t30 (x1 : Int64) (x3 : Int32) (x4 : Int32) (x5 : Int64) (x7 : Int32) (σ1 : Hp) : Option ((Int32 × Int64 × Int32 × Hp) ⊕ (Int32 × Hp)) := if x3 ≤ x7 then ex (some (x4, σ1)) else iter (f_X12_missed_s39 x1 x3 x5 x7) fuel (x4, (0 : Int32), σ1)
def f_X12_missed_s30 (x1 : Int64) (x3 : Int32) (v : (Int32 × Int64 × Int32 × Hp)) : Option ((Int32 × Int64 × Int32 × Hp) ⊕ (Int32 × Hp)) := f_X12_missed_t30 x1 x3 v.1 v.2.1 v.2.2.1 v.2.2.2
def f_X12_missed (a1 : Int64) (σ : Hp) : Option (Int32 × Hp) := b2 (f_X12_isNumber a1 σ) (fun r_2 s_3 => if r_2 = 0 then b2 (f_X12_no (-6 : Int32) s_3) (fun r_21 s_22 => some (r_21, s_22)) else b2 (f_X12_figures a1 s_3) (fun r_6 s_7 => iter (f_X12_missed_s30 a1 r_6) fuel ((0 : Int32), (1 : Int64), (0 : Int32), s_7)))
set_option maxHeartbeats 4000000 in
set_option maxRecDepth 100000 in
theorem c_X12_missed (l : Launch) (g : tG) (P : Nat → Nat) (σ : Hp) (a1 : Int64) (sz : Nat) {r : Int32} {τ : Hp} (h : f_X12_missed a1 σ = some (r, τ)) : Met l yX12_missed (Cond.code yX12_missed cX12_missed 12 (some .int) :: tblG) ({ frames := 1, cells := 0, slots := 0, locals := 25 }) (va_Pc [.ref (gL g 40), .long a1] (tPre g P σ sz)) (tQ (some (.int r)) (tPost g P τ (va_A (wC g P σ) sz)) (va_A (wC g P σ) sz)) 0 0 (va_A (wC g P σ) sz) := by
  refine T_start (B := fun A => tPost g P τ A) (by decide) (Nat.le_of_ble_eq_true rfl) ?_
  intro p e s m args below meth c ls0 A hx hb hml hr hown hlocks ht hnm hK hZ hA hB0 hl0
  have hL_30 : ∀ (x1 : Int64) (x3 : Int32) (n : Nat) (x4 : Int32) (x5 : Int64) (x7 : Int32) (σ1 : Hp) (H : Heap) (locs : List Loc) (ls : Array Slot), iter (f_X12_missed_s30 x1 x3) n (x4, x5, x7, σ1) = some (r, τ) → tB g P σ1 A s.heap H locs → lv_has ls 12 [(0, .ref (gL g 40)), (1, .long x1), (3, .int x3), (4, .int x4), (5, .long x5), (7, .int x7)] → WQ p l e { frames := 1, cells := 0, slots := 0, locals := 25 } s m args below meth c g P A (some (.int r)) τ H locs (F0 m 30 ls []) := by
    intro x1 x3 n
    induction n with
    | zero =>
      intro x4 x5 x7 σ1 H locs ls h hB hl
      exact (iter_0 h).elim
    | succ n ih1 =>
      intro x4 x5 x7 σ1 H locs ls h hB hl
      replace h := iter_eq h; obtain ⟨z1, hh1, hx1⟩ := h
      have hL_39 : ∀ (x5 : Int64) (x7 : Int32) (n : Nat) (x4 : Int32) (x8 : Int32) (σ1 : Hp) (H : Heap) (locs : List Loc) (ls : Array Slot), iter (f_X12_missed_s39 x1 x3 x5 x7) n (x4, x8, σ1) = some z1 → tB g P σ1 A s.heap H locs → lv_has ls 12 [(0, .ref (gL g 40)), (1, .long x1), (3, .int x3), (4, .int x4), (5, .long x5), (7, .int x7), (8, .int x8)] → WQ p l e { frames := 1, cells := 0, slots := 0, locals := 25 } s m args below meth c g P A (some (.int r)) τ H locs (F0 m 39 ls []) := by
        intro x5 x7 n
        induction n with
        | zero =>
          intro x4 x8 σ1 H locs ls h hB hl
          exact (iter_0 h).elim
        | succ n ih2 =>
          intro x4 x8 σ1 H locs ls h hB hl
          replace h := iter_eq h; obtain ⟨z2, hh2, hx2⟩ := h
          have hb_143 : ∀ (x4 : Int32) (x8 : Int32) (σ1 : Hp) (H : Heap) (locs : List Loc) (ls : Array Slot), f_X12_missed_b143 x1 x3 x4 x5 x7 x8 σ1 = some z2 → tB g P σ1 A s.heap H locs → lv_has ls 12 [(0, .ref (gL g 40)), (1, .long x1), (3, .int x3), (4, .int x4), (5, .long x5), (7, .int x7), (8, .int x8)] → WQ p l e { frames := 1, cells := 0, slots := 0, locals := 25 } s m args below meth c g P A (some (.int r)) τ H locs (F0 m 143 ls []) := by
            intro x4 x8 σ1 H locs ls h hB hl
            unfold f_X12_missed_b143 at h
            refine lv_iinc (v := x8 + 1) (lv' := [(8, .int (x8 + 1)), (0, .ref (gL g 40)), (1, .long x1), (3, .int x3), (4, .int x4), (5, .long x5), (7, .int x7)]) hx hb dX12_missed_143 hl (k := 6) rfl rfl (by decide) rfl (fun ls hl => ?_)
            refine lv_goto (tgt := 39) hx hb dX12_missed_146 (by decide) ?_
            obtain rfl := Option.some.inj h
            exact ih2 x4 (x8 + 1) σ1 H locs ls hx2 hB (lv_sub hl [1, 2, 3, 4, 5, 6, 0] rfl)
          have hb_83 : ∀ (x4 : Int32) (x8 : Int32) (xt0 : Int32) (σ1 : Hp) (H : Heap) (locs : List Loc) (ls : Array Slot), f_X12_missed_b83 x1 x3 x4 x5 x7 x8 xt0 σ1 = some z2 → tB g P σ1 A s.heap H locs → lv_has ls 12 [(0, .ref (gL g 40)), (1, .long x1), (3, .int x3), (4, .int x4), (5, .long x5), (7, .int x7), (8, .int x8)] → WQ p l e { frames := 1, cells := 0, slots := 0, locals := 25 } s m args below meth c g P A (some (.int r)) τ H locs (F0 m 83 ls [.int xt0]) := by
            intro x4 x8 xt0 σ1 H locs ls h hB hl
            unfold f_X12_missed_b83 at h
            refine lv_istore (lv' := [(9, .int xt0), (0, .ref (gL g 40)), (1, .long x1), (3, .int x3), (4, .int x4), (5, .long x5), (7, .int x7), (8, .int x8)]) hx hb dX12_missed_83 hl (by decide) rfl (fun ls hl => ?_)
            refine lv_lload_n hx hb dX12_missed_85 rfl (lv_at hl 2 rfl) ?_
            refine lv_iload hx hb dX12_missed_86 (lv_at hl 7 rfl) ?_
            refine lv_aload_n hx hb dX12_missed_88 rfl (lv_at hl 1 rfl) ?_
            refine R_get (v := .ref (gL g 67)) hx hb ht ui_X12 hown hK hB (by decide) (cell_8 rfl) rfl 27 (by decide) (ht _ tw943) (fun _ h9 => h9) rfl dX12_missed_89 ?_
            refine lv_iload hx hb dX12_missed_92 (lv_at hl 6 rfl) ?_
            replace h := ck_eq h; obtain ⟨q_13, h⟩ := h
            refine R_iald hx hb hK hB rfl (inb_eq q_13) dX12_missed_94 ?_
            refine lv_isub hx hb dX12_missed_95 ?_
            refine lv_i2l (v := (x8 - (hI σ1 67 x7.toNatClampNeg)).toInt64) hx hb dX12_missed_96 rfl ?_
            refine lv_lload hx hb dX12_missed_97 (lv_at hl 5 rfl) ?_
            refine lv_lmul hx hb dX12_missed_99 ?_
            refine lv_ladd hx hb dX12_missed_100 ?_
            refine lv_lstore (lv' := [(10, .long (x1 + ((x8 - (hI σ1 67 x7.toNatClampNeg)).toInt64 * x5))), (9, .int xt0), (0, .ref (gL g 40)), (1, .long x1), (3, .int x3), (4, .int x4), (5, .long x5), (7, .int x7), (8, .int x8)]) hx hb dX12_missed_101 hl (by decide) rfl (fun ls hl => ?_)
            refine lv_iload hx hb dX12_missed_103 (lv_at hl 1 rfl) ?_
            refine lv_if_eq (tgt := 143) hx hb dX12_missed_105 (by decide) (fun c_14 => ?_) (fun c_14 => ?_)
            · replace h := itp h c_14
              exact hb_143 x4 x8 σ1 H locs ls h hB (lv_sub hl [2, 3, 4, 5, 6, 7, 8] rfl)
            · replace h := itn h c_14
              refine lv_lload hx hb dX12_missed_108 (lv_at hl 0 rfl) ?_
              refine lv_ldc2 (v := 999999999999999) hx hb hown (ht _ tw1088) dX12_missed_110 ?_
              refine W.lcmp hx hb dX12_missed_113 ?_
              refine lv_if_gt (tgt := 143) hx hb dX12_missed_114 (by decide) (fun c_15 => ?_) (fun c_15 => ?_)
              · replace h := itp h c_15
                exact hb_143 x4 x8 σ1 H locs ls h hB (lv_sub hl [2, 3, 4, 5, 6, 7, 8] rfl)
              · replace h := itn h c_15
                refine lv_iload hx hb dX12_missed_117 (lv_at hl 8 rfl) ?_
                refine lv_aload_n hx hb dX12_missed_119 rfl (lv_at hl 2 rfl) ?_
                refine R_get (v := .ref (gL g 67)) hx hb ht ui_X12 hown hK hB (by decide) (cell_8 rfl) rfl 27 (by decide) (ht _ tw943) (fun _ h9 => h9) rfl dX12_missed_120 ?_
                refine lv_iload hx hb dX12_missed_123 (lv_at hl 7 rfl) ?_
                refine R_iald hx hb hK hB rfl (inb_eq q_13) dX12_missed_125 ?_
                refine lv_isub hx hb dX12_missed_126 ?_
                refine lv_iload hx hb dX12_missed_127 (lv_at hl 7 rfl) ?_
                refine lv_iconst (v := 1) hx hb dX12_missed_129 (by decide) ?_
                refine lv_iadd hx hb dX12_missed_130 ?_
                refine lv_imul hx hb dX12_missed_131 ?_
                refine lv_aload_n hx hb dX12_missed_132 rfl (lv_at hl 2 rfl) ?_
                refine R_get (v := .int (hI σ1 40 2)) hx hb ht ui_X12 hown hK hB (by decide) (cell_8 rfl) rfl 2 (by decide) (ht _ tw918) (fun _ h9 => h9) rfl dX12_missed_133 ?_
                replace h := ck_eq h; obtain ⟨q_16, h⟩ := h
                refine lv_irem hx hb dX12_missed_136 q_16 ?_
                refine lv_if_ne (tgt := 143) hx hb dX12_missed_137 (by decide) (fun c_17 => ?_) (fun c_17 => ?_)
                · replace h := itn h c_17
                  exact hb_143 x4 x8 σ1 H locs ls h hB (lv_sub hl [2, 3, 4, 5, 6, 7, 8] rfl)
                · replace h := itp h c_17
                  refine lv_iinc (v := x4 + 1) (lv' := [(4, .int (x4 + 1)), (10, .long (x1 + ((x8 - (hI σ1 67 x7.toNatClampNeg)).toInt64 * x5))), (9, .int xt0), (0, .ref (gL g 40)), (1, .long x1), (3, .int x3), (5, .long x5), (7, .int x7), (8, .int x8)]) hx hb dX12_missed_140 hl (k := 5) rfl rfl (by decide) rfl (fun ls hl => ?_)
                  exact hb_143 (x4 + 1) x8 σ1 H locs ls h hB (lv_sub hl [3, 4, 5, 0, 6, 7, 8] rfl)
          have hb_82 : ∀ (x4 : Int32) (x8 : Int32) (σ1 : Hp) (H : Heap) (locs : List Loc) (ls : Array Slot), f_X12_missed_b82 x1 x3 x4 x5 x7 x8 σ1 = some z2 → tB g P σ1 A s.heap H locs → lv_has ls 12 [(0, .ref (gL g 40)), (1, .long x1), (3, .int x3), (4, .int x4), (5, .long x5), (7, .int x7), (8, .int x8)] → WQ p l e { frames := 1, cells := 0, slots := 0, locals := 25 } s m args below meth c g P A (some (.int r)) τ H locs (F0 m 82 ls []) := by
            intro x4 x8 σ1 H locs ls h hB hl
            unfold f_X12_missed_b82 at h
            refine lv_iconst (v := 0) hx hb dX12_missed_82 (by decide) ?_
            exact hb_83 x4 x8 (0 : Int32) σ1 H locs ls h hB (lv_sub hl [0, 1, 2, 3, 4, 5, 6] rfl)
          have hb_78 : ∀ (x4 : Int32) (x8 : Int32) (σ1 : Hp) (H : Heap) (locs : List Loc) (ls : Array Slot), f_X12_missed_b78 x1 x3 x4 x5 x7 x8 σ1 = some z2 → tB g P σ1 A s.heap H locs → lv_has ls 12 [(0, .ref (gL g 40)), (1, .long x1), (3, .int x3), (4, .int x4), (5, .long x5), (7, .int x7), (8, .int x8)] → WQ p l e { frames := 1, cells := 0, slots := 0, locals := 25 } s m args below meth c g P A (some (.int r)) τ H locs (F0 m 78 ls []) := by
            intro x4 x8 σ1 H locs ls h hB hl
            unfold f_X12_missed_b78 at h
            refine lv_iconst (v := 1) hx hb dX12_missed_78 (by decide) ?_
            refine lv_goto (tgt := 83) hx hb dX12_missed_79 (by decide) ?_
            exact hb_83 x4 x8 (1 : Int32) σ1 H locs ls h hB (lv_sub hl [0, 1, 2, 3, 4, 5, 6] rfl)
          have h : f_X12_missed_t39 x1 x3 x5 x7 x4 x8 σ1 = some z2 := hh2
          clear hh2
          unfold f_X12_missed_t39 at h
          refine lv_iload hx hb dX12_missed_39 (lv_at hl 6 rfl) ?_
          refine lv_aload_n hx hb dX12_missed_41 rfl (lv_at hl 0 rfl) ?_
          refine R_get (v := .int (hI σ1 40 2)) hx hb ht ui_X12 hown hK hB (by decide) (cell_8 rfl) rfl 2 (by decide) (ht _ tw918) (fun _ h9 => h9) rfl dX12_missed_42 ?_
          refine lv_icmp_ge (tgt := 149) hx hb dX12_missed_45 (by decide) (fun c_10 => ?_) (fun c_10 => ?_)
          · replace h := itp h c_10
            replace h := ex_eq h; obtain ⟨b2, h, hz2⟩ := h
            subst hz2
            have hz2 := (itk_inr hx2).symm
            subst hz2
            refine lv_lload hx hb dX12_missed_149 (lv_at hl 4 rfl) ?_
            refine lv_aload_n hx hb dX12_missed_151 rfl (lv_at hl 0 rfl) ?_
            refine R_get (v := .int (hI σ1 40 2)) hx hb ht ui_X12 hown hK hB (by decide) (cell_8 rfl) rfl 2 (by decide) (ht _ tw918) (fun _ h9 => h9) rfl dX12_missed_152 ?_
            refine lv_i2l (v := (hI σ1 40 2).toInt64) hx hb dX12_missed_155 rfl ?_
            refine lv_lmul hx hb dX12_missed_156 ?_
            refine lv_lstore (lv' := [(5, .long (x5 * (hI σ1 40 2).toInt64)), (0, .ref (gL g 40)), (1, .long x1), (3, .int x3), (4, .int x4), (7, .int x7), (8, .int x8)]) hx hb dX12_missed_157 hl (by decide) rfl (fun ls hl => ?_)
            refine lv_iinc (v := x7 + 1) (lv' := [(7, .int (x7 + 1)), (5, .long (x5 * (hI σ1 40 2).toInt64)), (0, .ref (gL g 40)), (1, .long x1), (3, .int x3), (4, .int x4), (8, .int x8)]) hx hb dX12_missed_159 hl (k := 5) rfl rfl (by decide) rfl (fun ls hl => ?_)
            refine lv_goto (tgt := 30) hx hb dX12_missed_162 (by decide) ?_
            obtain rfl := Option.some.inj h
            exact ih1 x4 (x5 * (hI σ1 40 2).toInt64) (x7 + 1) σ1 H locs ls hx1 hB (lv_sub hl [2, 3, 4, 5, 1, 0] rfl)
          · replace h := itn h c_10
            refine lv_iload hx hb dX12_missed_48 (lv_at hl 6 rfl) ?_
            refine lv_aload_n hx hb dX12_missed_50 rfl (lv_at hl 0 rfl) ?_
            refine R_get (v := .ref (gL g 67)) hx hb ht ui_X12 hown hK hB (by decide) (cell_8 rfl) rfl 27 (by decide) (ht _ tw943) (fun _ h9 => h9) rfl dX12_missed_51 ?_
            refine lv_iload hx hb dX12_missed_54 (lv_at hl 5 rfl) ?_
            replace h := ck_eq h; obtain ⟨q_11, h⟩ := h
            refine R_iald hx hb hK hB rfl (inb_eq q_11) dX12_missed_56 ?_
            refine lv_icmp_eq (tgt := 82) hx hb dX12_missed_57 (by decide) (fun c_12 => ?_) (fun c_12 => ?_)
            · replace h := itp h c_12
              exact hb_82 x4 x8 σ1 H locs ls h hB (lv_sub hl [0, 1, 2, 3, 4, 5, 6] rfl)
            · replace h := itn h c_12
              refine lv_iload hx hb dX12_missed_60 (lv_at hl 6 rfl) ?_
              refine lv_if_gt (tgt := 78) hx hb dX12_missed_62 (by decide) (fun c_18 => ?_) (fun c_18 => ?_)
              · replace h := itp h c_18
                exact hb_78 x4 x8 σ1 H locs ls h hB (lv_sub hl [0, 1, 2, 3, 4, 5, 6] rfl)
              · replace h := itn h c_18
                refine lv_iload hx hb dX12_missed_65 (lv_at hl 5 rfl) ?_
                refine lv_iload_n hx hb dX12_missed_67 rfl (lv_at hl 2 rfl) ?_
                refine lv_iconst (v := 1) hx hb dX12_missed_68 (by decide) ?_
                refine lv_isub hx hb dX12_missed_69 ?_
                refine lv_icmp_lt (tgt := 78) hx hb dX12_missed_70 (by decide) (fun c_19 => ?_) (fun c_19 => ?_)
                · replace h := itp h c_19
                  exact hb_78 x4 x8 σ1 H locs ls h hB (lv_sub hl [0, 1, 2, 3, 4, 5, 6] rfl)
                · replace h := itn h c_19
                  refine lv_iload_n hx hb dX12_missed_73 rfl (lv_at hl 2 rfl) ?_
                  refine lv_iconst (v := 1) hx hb dX12_missed_74 (by decide) ?_
                  refine lv_icmp_ne (tgt := 82) hx hb dX12_missed_75 (by decide) (fun c_20 => ?_) (fun c_20 => ?_)
                  · replace h := itn h c_20
                    exact hb_82 x4 x8 σ1 H locs ls h hB (lv_sub hl [0, 1, 2, 3, 4, 5, 6] rfl)
                  · replace h := itp h c_20
                    exact hb_78 x4 x8 σ1 H locs ls h hB (lv_sub hl [0, 1, 2, 3, 4, 5, 6] rfl)
      have h : f_X12_missed_t30 x1 x3 x4 x5 x7 σ1 = some z1 := hh1
      clear hh1
      unfold f_X12_missed_t30 at h
      refine lv_iload hx hb dX12_missed_30 (lv_at hl 5 rfl) ?_
      refine lv_iload_n hx hb dX12_missed_32 rfl (lv_at hl 2 rfl) ?_
      refine lv_icmp_ge (tgt := 165) hx hb dX12_missed_33 (by decide) (fun c_9 => ?_) (fun c_9 => ?_)
      · replace h := itp h c_9
        replace h := ex_eq h; obtain ⟨b1, h, hz1⟩ := h
        subst hz1
        have hz1 := (itk_inr hx1).symm
        subst hz1
        refine lv_iload hx hb dX12_missed_165 (lv_at hl 3 rfl) ?_
        obtain ⟨rfl, rfl⟩ := Prod.mk.inj (Option.some.inj h)
        exact W.iret hx hb hr (R_end hB) hB.2.2.2.2 dX12_missed_167
      · replace h := itn h c_9
        refine lv_iconst (v := 0) hx hb dX12_missed_36 (by decide) ?_
        refine lv_istore (lv' := [(8, .int (0 : Int32)), (0, .ref (gL g 40)), (1, .long x1), (3, .int x3), (4, .int x4), (5, .long x5), (7, .int x7)]) hx hb dX12_missed_37 hl (by decide) rfl (fun ls hl => ?_)
        exact hL_39 x5 x7 fuel x4 (0 : Int32) σ1 H locs ls h hB (lv_sub hl [1, 2, 3, 4, 5, 6, 0] rfl)
  suffices hmain : ∀ (H : Heap) (locs : List Loc) (ls : Array Slot), tB g P σ A s.heap H locs → lv_has ls 12 [(0, .ref (gL g 40)), (1, .long a1)] → WQ p l e { frames := 1, cells := 0, slots := 0, locals := 25 } s m args below meth c g P A (some (.int r)) τ H locs (F0 m 0 ls []) from hmain _ _ ls0 hB0 hl0
  intro H locs ls hB hl
  unfold f_X12_missed at h
  refine lv_aload_n hx hb dX12_missed_0 rfl (lv_at hl 0 rfl) ?_
  refine lv_lload_n hx hb dX12_missed_1 rfl (lv_at hl 1 rfl) ?_
  replace h := b2_eq h; obtain ⟨r_2, s_3, hc_4, h⟩ := h
  refine R_call (rest := []) [.int r_2] (R_runV (n := 1) (As := [.long a1]) ⟨hx, hb, hml, hown, ht⟩ (fun _ h9 => h9) hK hZ hA hB (c_X12_isNumber l g P σ a1 H.size hc_4) (R_recv hK hB (by decide) (cell_8 rfl) rfl) tw1177 tw1174 tw1176 pw45 tw5 ⟨by decide, by decide, by decide⟩ rfl rfl ⟨Nat.le_of_ble_eq_true rfl, Nat.le_of_ble_eq_true rfl⟩ rfl hl.1 rfl (Nat.le_of_ble_eq_true rfl) dX12_missed_2 ⟨Nat.zero_le _, Nat.zero_le _⟩) hB hA rfl (fun H locs hB => ?_)
  refine lv_if_ne (tgt := 15) hx hb dX12_missed_5 (by decide) (fun c_5 => ?_) (fun c_5 => ?_)
  · replace h := itn h c_5
    refine lv_aload_n hx hb dX12_missed_15 rfl (lv_at hl 0 rfl) ?_
    refine lv_lload_n hx hb dX12_missed_16 rfl (lv_at hl 1 rfl) ?_
    replace h := b2_eq h; obtain ⟨r_6, s_7, hc_8, h⟩ := h
    refine R_call (rest := []) [.int r_6] (R_runV (n := 1) (As := [.long a1]) ⟨hx, hb, hml, hown, ht⟩ (fun _ h9 => h9) hK hZ hA hB (c_X12_figures l g P s_3 a1 H.size hc_8) (R_recv hK hB (by decide) (cell_8 rfl) rfl) tw1087 tw1084 tw1086 pw31 tw5 ⟨by decide, by decide, by decide⟩ rfl rfl ⟨Nat.le_of_ble_eq_true rfl, Nat.le_of_ble_eq_true rfl⟩ rfl hl.1 rfl (Nat.le_of_ble_eq_true rfl) dX12_missed_17 ⟨Nat.zero_le _, Nat.zero_le _⟩) hB hA rfl (fun H locs hB => ?_)
    refine lv_istore_n (lv' := [(3, .int r_6), (0, .ref (gL g 40)), (1, .long a1)]) hx hb dX12_missed_20 rfl hl (by decide) rfl (fun ls hl => ?_)
    refine lv_iconst (v := 0) hx hb dX12_missed_21 (by decide) ?_
    refine lv_istore (lv' := [(4, .int (0 : Int32)), (3, .int r_6), (0, .ref (gL g 40)), (1, .long a1)]) hx hb dX12_missed_22 hl (by decide) rfl (fun ls hl => ?_)
    refine lv_lconst (v := 1) hx hb dX12_missed_24 (by decide) ?_
    refine lv_lstore (lv' := [(5, .long (1 : Int64)), (4, .int (0 : Int32)), (3, .int r_6), (0, .ref (gL g 40)), (1, .long a1)]) hx hb dX12_missed_25 hl (by decide) rfl (fun ls hl => ?_)
    refine lv_iconst (v := 0) hx hb dX12_missed_27 (by decide) ?_
    refine lv_istore (lv' := [(7, .int (0 : Int32)), (5, .long (1 : Int64)), (4, .int (0 : Int32)), (3, .int r_6), (0, .ref (gL g 40)), (1, .long a1)]) hx hb dX12_missed_28 hl (by decide) rfl (fun ls hl => ?_)
    exact hL_30 a1 r_6 fuel (0 : Int32) (1 : Int64) (0 : Int32) s_7 H locs ls h hB (lv_sub hl [4, 5, 3, 2, 1, 0] rfl)
  · replace h := itp h c_5
    refine lv_aload_n hx hb dX12_missed_8 rfl (lv_at hl 0 rfl) ?_
    refine lv_bipush (v := -6) hx hb dX12_missed_9 (by decide) ?_
    replace h := b2_eq h; obtain ⟨r_21, s_22, hc_23, h⟩ := h
    refine R_call (rest := []) [.int r_21] (R_runV (n := 1) (As := [.int (-6 : Int32)]) ⟨hx, hb, hml, hown, ht⟩ (fun _ h9 => h9) hK hZ hA hB (c_X12_no l g P s_3 (-6 : Int32) H.size hc_23) (R_recv hK hB (by decide) (cell_8 rfl) rfl) tw1042 tw1039 tw1041 pw26 tw5 ⟨by decide, by decide, by decide⟩ rfl rfl ⟨Nat.le_of_ble_eq_true rfl, Nat.le_of_ble_eq_true rfl⟩ rfl hl.1 rfl (Nat.le_of_ble_eq_true rfl) dX12_missed_11 ⟨Nat.zero_le _, Nat.zero_le _⟩) hB hA rfl (fun H locs hB => ?_)
    obtain ⟨rfl, rfl⟩ := Prod.mk.inj (Option.some.inj h)
    exact W.iret hx hb hr (R_end hB) hB.2.2.2.2 dX12_missed_14
def f_X12_wrongIn_b67 (x1 : Int32) (x2 : Int32) (x3 : Int32) (x4 : Int32) (σ1 : Hp) : Option ((Int32 × Hp) ⊕ (Int32 × Hp)) := some (.inl ((x4 + 1), σ1))
def f_X12_wrongIn_t3 (x1 : Int32) (x2 : Int32) (x3 : Int32) (x4 : Int32) (σ1 : Hp) : Option ((Int32 × Hp) ⊕ (Int32 × Hp)) := if x3 ≤ x4 then ex (some ((-1 : Int32), σ1)) else ck (inb (((160 : Int32) * x2) + x4) 1280 = true) (b2 (f_X12_isNumber (hJ σ1 54 (((160 : Int32) * x2) + x4).toNatClampNeg) σ1) (fun r_3 s_4 => if r_3 = 0 then ex (some (x4, s_4)) else if x4 ≤ 0 then f_X12_wrongIn_b67 x1 x2 x3 x4 s_4 else ck (inb ((((160 : Int32) * x2) + x4) - (1 : Int32)) 1280 = true) (b2 (f_X12_nextOf x1 (hJ s_4 54 ((((160 : Int32) * x2) + x4) - (1 : Int32)).toNatClampNeg) s_4) (fun r_9 s_10 => if (lg_cmp r_9 (hJ σ1 54 (((160 : Int32) * x2) + x4).toNatClampNeg)) = 0 then f_X12_wrongIn_b67 x1 x2 x3 x4 s_10 else ex (some (x4, s_10))))))
def f_X12_wrongIn_s3 (x1 : Int32) (x2 : Int32) (x3 : Int32) (v : (Int32 × Hp)) : Option ((Int32 × Hp) ⊕ (Int32 × Hp)) := f_X12_wrongIn_t3 x1 x2 x3 v.1 v.2
def f_X12_wrongIn (a1 : Int32) (a2 : Int32) (a3 : Int32) (σ : Hp) : Option (Int32 × Hp) := iter (f_X12_wrongIn_s3 a1 a2 a3) fuel ((0 : Int32), σ)
set_option maxHeartbeats 4000000 in
set_option maxRecDepth 100000 in
theorem c_X12_wrongIn (l : Launch) (g : tG) (P : Nat → Nat) (σ : Hp) (a1 : Int32) (a2 : Int32) (a3 : Int32) (sz : Nat) {r : Int32} {τ : Hp} (h : f_X12_wrongIn a1 a2 a3 σ = some (r, τ)) : Met l yX12_wrongIn (Cond.code yX12_wrongIn cX12_wrongIn 7 (some .int) :: tblG) ({ frames := 3, cells := 0, slots := 0, locals := 82 }) (va_Pc [.ref (gL g 40), .int a1, .int a2, .int a3] (tPre g P σ sz)) (tQ (some (.int r)) (tPost g P τ (va_A (wC g P σ) sz)) (va_A (wC g P σ) sz)) 0 0 (va_A (wC g P σ) sz) := by
  refine T_start (B := fun A => tPost g P τ A) (by decide) (Nat.le_of_ble_eq_true rfl) ?_
  intro p e s m args below meth c ls0 A hx hb hml hr hown hlocks ht hnm hK hZ hA hB0 hl0
  have hL_3 : ∀ (x1 : Int32) (x2 : Int32) (x3 : Int32) (n : Nat) (x4 : Int32) (σ1 : Hp) (H : Heap) (locs : List Loc) (ls : Array Slot), iter (f_X12_wrongIn_s3 x1 x2 x3) n (x4, σ1) = some (r, τ) → tB g P σ1 A s.heap H locs → lv_has ls 7 [(0, .ref (gL g 40)), (1, .int x1), (2, .int x2), (3, .int x3), (4, .int x4)] → WQ p l e { frames := 3, cells := 0, slots := 0, locals := 82 } s m args below meth c g P A (some (.int r)) τ H locs (F0 m 3 ls []) := by
    intro x1 x2 x3 n
    induction n with
    | zero =>
      intro x4 σ1 H locs ls h hB hl
      exact (iter_0 h).elim
    | succ n ih1 =>
      intro x4 σ1 H locs ls h hB hl
      replace h := iter_eq h; obtain ⟨z1, hh1, hx1⟩ := h
      have hb_67 : ∀ (x4 : Int32) (σ1 : Hp) (H : Heap) (locs : List Loc) (ls : Array Slot), f_X12_wrongIn_b67 x1 x2 x3 x4 σ1 = some z1 → tB g P σ1 A s.heap H locs → lv_has ls 7 [(0, .ref (gL g 40)), (1, .int x1), (2, .int x2), (3, .int x3), (4, .int x4)] → WQ p l e { frames := 3, cells := 0, slots := 0, locals := 82 } s m args below meth c g P A (some (.int r)) τ H locs (F0 m 67 ls []) := by
        intro x4 σ1 H locs ls h hB hl
        unfold f_X12_wrongIn_b67 at h
        refine lv_iinc (v := x4 + 1) (lv' := [(4, .int (x4 + 1)), (0, .ref (gL g 40)), (1, .int x1), (2, .int x2), (3, .int x3)]) hx hb dX12_wrongIn_67 hl (k := 4) rfl rfl (by decide) rfl (fun ls hl => ?_)
        refine lv_goto (tgt := 3) hx hb dX12_wrongIn_70 (by decide) ?_
        obtain rfl := Option.some.inj h
        exact ih1 (x4 + 1) σ1 H locs ls hx1 hB (lv_sub hl [1, 2, 3, 4, 0] rfl)
      have h : f_X12_wrongIn_t3 x1 x2 x3 x4 σ1 = some z1 := hh1
      clear hh1
      unfold f_X12_wrongIn_t3 at h
      refine lv_iload hx hb dX12_wrongIn_3 (lv_at hl 4 rfl) ?_
      refine lv_iload_n hx hb dX12_wrongIn_5 rfl (lv_at hl 3 rfl) ?_
      refine lv_icmp_ge (tgt := 73) hx hb dX12_wrongIn_6 (by decide) (fun c_1 => ?_) (fun c_1 => ?_)
      · replace h := itp h c_1
        replace h := ex_eq h; obtain ⟨b1, h, hz1⟩ := h
        subst hz1
        have hz1 := (itk_inr hx1).symm
        subst hz1
        refine lv_iconst (v := -1) hx hb dX12_wrongIn_73 (by decide) ?_
        obtain ⟨rfl, rfl⟩ := Prod.mk.inj (Option.some.inj h)
        exact W.iret hx hb hr (R_end hB) hB.2.2.2.2 dX12_wrongIn_74
      · replace h := itn h c_1
        refine lv_aload_n hx hb dX12_wrongIn_9 rfl (lv_at hl 0 rfl) ?_
        refine R_get (v := .ref (gL g 54)) hx hb ht ui_X12 hown hK hB (by decide) (cell_8 rfl) rfl 14 (by decide) (ht _ tw930) (fun _ h9 => h9) rfl dX12_wrongIn_10 ?_
        refine lv_sipush (v := 160) hx hb dX12_wrongIn_13 (by decide) ?_
        refine lv_iload_n hx hb dX12_wrongIn_16 rfl (lv_at hl 2 rfl) ?_
        refine lv_imul hx hb dX12_wrongIn_17 ?_
        refine lv_iload hx hb dX12_wrongIn_18 (lv_at hl 4 rfl) ?_
        refine lv_iadd hx hb dX12_wrongIn_20 ?_
        replace h := ck_eq h; obtain ⟨q_2, h⟩ := h
        refine R_lald hx hb hK hB rfl (inb_eq q_2) dX12_wrongIn_21 ?_
        refine lv_lstore (lv' := [(5, .long (hJ σ1 54 (((160 : Int32) * x2) + x4).toNatClampNeg)), (0, .ref (gL g 40)), (1, .int x1), (2, .int x2), (3, .int x3), (4, .int x4)]) hx hb dX12_wrongIn_22 hl (by decide) rfl (fun ls hl => ?_)
        refine lv_aload_n hx hb dX12_wrongIn_24 rfl (lv_at hl 1 rfl) ?_
        refine lv_lload hx hb dX12_wrongIn_25 (lv_at hl 0 rfl) ?_
        replace h := b2_eq h; obtain ⟨r_3, s_4, hc_5, h⟩ := h
        refine R_call (rest := []) [.int r_3] (R_runV (n := 1) (As := [.long (hJ σ1 54 (((160 : Int32) * x2) + x4).toNatClampNeg)]) ⟨hx, hb, hml, hown, ht⟩ (fun _ h9 => h9) hK hZ hA hB (c_X12_isNumber l g P σ1 (hJ σ1 54 (((160 : Int32) * x2) + x4).toNatClampNeg) H.size hc_5) (R_recv hK hB (by decide) (cell_8 rfl) rfl) tw1177 tw1174 tw1176 pw45 tw5 ⟨by decide, by decide, by decide⟩ rfl rfl ⟨Nat.le_of_ble_eq_true rfl, Nat.le_of_ble_eq_true rfl⟩ rfl hl.1 rfl (Nat.le_of_ble_eq_true rfl) dX12_wrongIn_27 ⟨Nat.zero_le _, Nat.zero_le _⟩) hB hA rfl (fun H locs hB => ?_)
        refine lv_if_eq (tgt := 64) hx hb dX12_wrongIn_30 (by decide) (fun c_6 => ?_) (fun c_6 => ?_)
        · replace h := itp h c_6
          replace h := ex_eq h; obtain ⟨b1, h, hz1⟩ := h
          subst hz1
          have hz1 := (itk_inr hx1).symm
          subst hz1
          refine lv_iload hx hb dX12_wrongIn_64 (lv_at hl 5 rfl) ?_
          obtain ⟨rfl, rfl⟩ := Prod.mk.inj (Option.some.inj h)
          exact W.iret hx hb hr (R_end hB) hB.2.2.2.2 dX12_wrongIn_66
        · replace h := itn h c_6
          refine lv_iload hx hb dX12_wrongIn_33 (lv_at hl 5 rfl) ?_
          refine lv_if_le (tgt := 67) hx hb dX12_wrongIn_35 (by decide) (fun c_7 => ?_) (fun c_7 => ?_)
          · replace h := itp h c_7
            exact hb_67 x4 s_4 H locs ls h hB (lv_sub hl [1, 2, 3, 4, 5] rfl)
          · replace h := itn h c_7
            refine lv_aload_n hx hb dX12_wrongIn_38 rfl (lv_at hl 1 rfl) ?_
            refine lv_iload_n hx hb dX12_wrongIn_39 rfl (lv_at hl 2 rfl) ?_
            refine lv_aload_n hx hb dX12_wrongIn_40 rfl (lv_at hl 1 rfl) ?_
            refine R_get (v := .ref (gL g 54)) hx hb ht ui_X12 hown hK hB (by decide) (cell_8 rfl) rfl 14 (by decide) (ht _ tw930) (fun _ h9 => h9) rfl dX12_wrongIn_41 ?_
            refine lv_sipush (v := 160) hx hb dX12_wrongIn_44 (by decide) ?_
            refine lv_iload_n hx hb dX12_wrongIn_47 rfl (lv_at hl 3 rfl) ?_
            refine lv_imul hx hb dX12_wrongIn_48 ?_
            refine lv_iload hx hb dX12_wrongIn_49 (lv_at hl 5 rfl) ?_
            refine lv_iadd hx hb dX12_wrongIn_51 ?_
            refine lv_iconst (v := 1) hx hb dX12_wrongIn_52 (by decide) ?_
            refine lv_isub hx hb dX12_wrongIn_53 ?_
            replace h := ck_eq h; obtain ⟨q_8, h⟩ := h
            refine R_lald hx hb hK hB rfl (inb_eq q_8) dX12_wrongIn_54 ?_
            replace h := b2_eq h; obtain ⟨r_9, s_10, hc_11, h⟩ := h
            refine R_call (rest := []) [.long r_9] (R_runV (n := 2) (As := [.int x1, .long (hJ s_4 54 ((((160 : Int32) * x2) + x4) - (1 : Int32)).toNatClampNeg)]) ⟨hx, hb, hml, hown, ht⟩ (fun _ h9 => h9) hK hZ hA hB (c_X12_nextOf l g P s_4 x1 (hJ s_4 54 ((((160 : Int32) * x2) + x4) - (1 : Int32)).toNatClampNeg) H.size hc_11) (R_recv hK hB (by decide) (cell_8 rfl) rfl) tw1075 tw1072 tw1074 pw28 tw5 ⟨by decide, by decide, by decide⟩ rfl rfl ⟨Nat.le_of_ble_eq_true rfl, Nat.le_of_ble_eq_true rfl⟩ rfl hl.1 rfl (Nat.le_of_ble_eq_true rfl) dX12_wrongIn_55 ⟨Nat.zero_le _, Nat.zero_le _⟩) hB hA rfl (fun H locs hB => ?_)
            refine lv_lload hx hb dX12_wrongIn_58 (lv_at hl 0 rfl) ?_
            refine W.lcmp hx hb dX12_wrongIn_60 ?_
            refine lv_if_eq (tgt := 67) hx hb dX12_wrongIn_61 (by decide) (fun c_12 => ?_) (fun c_12 => ?_)
            · replace h := itp h c_12
              exact hb_67 x4 s_10 H locs ls h hB (lv_sub hl [1, 2, 3, 4, 5] rfl)
            · replace h := itn h c_12
              replace h := ex_eq h; obtain ⟨b1, h, hz1⟩ := h
              subst hz1
              have hz1 := (itk_inr hx1).symm
              subst hz1
              refine lv_iload hx hb dX12_wrongIn_64 (lv_at hl 5 rfl) ?_
              obtain ⟨rfl, rfl⟩ := Prod.mk.inj (Option.some.inj h)
              exact W.iret hx hb hr (R_end hB) hB.2.2.2.2 dX12_wrongIn_66
  suffices hmain : ∀ (H : Heap) (locs : List Loc) (ls : Array Slot), tB g P σ A s.heap H locs → lv_has ls 7 [(0, .ref (gL g 40)), (1, .int a1), (2, .int a2), (3, .int a3)] → WQ p l e { frames := 3, cells := 0, slots := 0, locals := 82 } s m args below meth c g P A (some (.int r)) τ H locs (F0 m 0 ls []) from hmain _ _ ls0 hB0 hl0
  intro H locs ls hB hl
  unfold f_X12_wrongIn at h
  refine lv_iconst (v := 0) hx hb dX12_wrongIn_0 (by decide) ?_
  refine lv_istore (lv' := [(4, .int (0 : Int32)), (0, .ref (gL g 40)), (1, .int a1), (2, .int a2), (3, .int a3)]) hx hb dX12_wrongIn_1 hl (by decide) rfl (fun ls hl => ?_)
  exact hL_3 a1 a2 a3 fuel (0 : Int32) σ H locs ls h hB (lv_sub hl [1, 2, 3, 4, 0] rfl)
def f_X12_judge_b18 (x1 : Int32) (x2 : Int32) (x3 : Int32) (xt0 : Int32) (σ1 : Hp) : Option (Int32 × Hp) := if xt0 = 0 then b2 (f_X12_wrongIn x1 x2 x3 σ1) (fun r_6 s_7 => some (r_6, s_7)) else b2 (f_X12_noTen xt0 σ1) (fun r_9 s_10 => some (r_9, s_10))
def f_X12_judge (a1 : Int32) (a2 : Int32) (a3 : Int32) (σ : Hp) : Option (Int32 × Hp) := b2 (f_X12_isLaw a1 σ) (fun r_1 s_2 => if r_1 = 0 then f_X12_judge_b18 a1 a2 a3 (-1 : Int32) s_2 else b2 (f_X12_bars a2 a3 s_2) (fun r_12 s_13 => f_X12_judge_b18 a1 a2 a3 r_12 s_13))
set_option maxHeartbeats 4000000 in
set_option maxRecDepth 100000 in
theorem c_X12_judge (l : Launch) (g : tG) (P : Nat → Nat) (σ : Hp) (a1 : Int32) (a2 : Int32) (a3 : Int32) (sz : Nat) {r : Int32} {τ : Hp} (h : f_X12_judge a1 a2 a3 σ = some (r, τ)) : Met l yX12_judge (Cond.code yX12_judge cX12_judge 5 (some .int) :: tblG) ({ frames := 4, cells := 0, slots := 0, locals := 108 }) (va_Pc [.ref (gL g 40), .int a1, .int a2, .int a3] (tPre g P σ sz)) (tQ (some (.int r)) (tPost g P τ (va_A (wC g P σ) sz)) (va_A (wC g P σ) sz)) 0 0 (va_A (wC g P σ) sz) := by
  refine T_start (B := fun A => tPost g P τ A) (by decide) (Nat.le_of_ble_eq_true rfl) ?_
  intro p e s m args below meth c ls0 A hx hb hml hr hown hlocks ht hnm hK hZ hA hB0 hl0
  have hb_18 : ∀ (x1 : Int32) (x2 : Int32) (x3 : Int32) (xt0 : Int32) (σ1 : Hp) (H : Heap) (locs : List Loc) (ls : Array Slot), f_X12_judge_b18 x1 x2 x3 xt0 σ1 = some (r, τ) → tB g P σ1 A s.heap H locs → lv_has ls 5 [(0, .ref (gL g 40)), (1, .int x1), (2, .int x2), (3, .int x3)] → WQ p l e { frames := 4, cells := 0, slots := 0, locals := 108 } s m args below meth c g P A (some (.int r)) τ H locs (F0 m 18 ls [.int xt0]) := by
    intro x1 x2 x3 xt0 σ1 H locs ls h hB hl
    unfold f_X12_judge_b18 at h
    refine lv_istore (lv' := [(4, .int xt0), (0, .ref (gL g 40)), (1, .int x1), (2, .int x2), (3, .int x3)]) hx hb dX12_judge_18 hl (by decide) rfl (fun ls hl => ?_)
    refine lv_iload hx hb dX12_judge_20 (lv_at hl 0 rfl) ?_
    refine lv_if_eq (tgt := 34) hx hb dX12_judge_22 (by decide) (fun c_5 => ?_) (fun c_5 => ?_)
    · replace h := itp h c_5
      refine lv_aload_n hx hb dX12_judge_34 rfl (lv_at hl 1 rfl) ?_
      refine lv_iload_n hx hb dX12_judge_35 rfl (lv_at hl 2 rfl) ?_
      refine lv_iload_n hx hb dX12_judge_36 rfl (lv_at hl 3 rfl) ?_
      refine lv_iload_n hx hb dX12_judge_37 rfl (lv_at hl 4 rfl) ?_
      replace h := b2_eq h; obtain ⟨r_6, s_7, hc_8, h⟩ := h
      refine R_call (rest := []) [.int r_6] (R_runV (n := 3) (As := [.int x1, .int x2, .int x3]) ⟨hx, hb, hml, hown, ht⟩ (fun _ h9 => h9) hK hZ hA hB (c_X12_wrongIn l g P σ1 x1 x2 x3 H.size hc_8) (R_recv hK hB (by decide) (cell_8 rfl) rfl) tw1286 tw1283 tw1285 pw54 tw5 ⟨by decide, by decide, by decide⟩ rfl rfl ⟨Nat.le_of_ble_eq_true rfl, Nat.le_of_ble_eq_true rfl⟩ rfl hl.1 rfl (Nat.le_of_ble_eq_true rfl) dX12_judge_38 ⟨Nat.zero_le _, Nat.zero_le _⟩) hB hA rfl (fun H locs hB => ?_)
      obtain ⟨rfl, rfl⟩ := Prod.mk.inj (Option.some.inj h)
      exact W.iret hx hb hr (R_end hB) hB.2.2.2.2 dX12_judge_41
    · replace h := itn h c_5
      refine lv_aload_n hx hb dX12_judge_25 rfl (lv_at hl 1 rfl) ?_
      refine lv_iload hx hb dX12_judge_26 (lv_at hl 0 rfl) ?_
      replace h := b2_eq h; obtain ⟨r_9, s_10, hc_11, h⟩ := h
      refine R_call (rest := []) [.int r_9] (R_runV (n := 1) (As := [.int xt0]) ⟨hx, hb, hml, hown, ht⟩ (fun _ h9 => h9) hK hZ hA hB (c_X12_noTen l g P σ1 xt0 H.size hc_11) (R_recv hK hB (by decide) (cell_8 rfl) rfl) tw1209 tw1206 tw1208 pw49 tw5 ⟨by decide, by decide, by decide⟩ rfl rfl ⟨Nat.le_of_ble_eq_true rfl, Nat.le_of_ble_eq_true rfl⟩ rfl hl.1 rfl (Nat.le_of_ble_eq_true rfl) dX12_judge_28 ⟨Nat.zero_le _, Nat.zero_le _⟩) hB hA rfl (fun H locs hB => ?_)
      refine lv_goto (tgt := 41) hx hb dX12_judge_31 (by decide) ?_
      obtain ⟨rfl, rfl⟩ := Prod.mk.inj (Option.some.inj h)
      exact W.iret hx hb hr (R_end hB) hB.2.2.2.2 dX12_judge_41
  suffices hmain : ∀ (H : Heap) (locs : List Loc) (ls : Array Slot), tB g P σ A s.heap H locs → lv_has ls 5 [(0, .ref (gL g 40)), (1, .int a1), (2, .int a2), (3, .int a3)] → WQ p l e { frames := 4, cells := 0, slots := 0, locals := 108 } s m args below meth c g P A (some (.int r)) τ H locs (F0 m 0 ls []) from hmain _ _ ls0 hB0 hl0
  intro H locs ls hB hl
  unfold f_X12_judge at h
  refine lv_aload_n hx hb dX12_judge_0 rfl (lv_at hl 0 rfl) ?_
  refine lv_iload_n hx hb dX12_judge_1 rfl (lv_at hl 1 rfl) ?_
  replace h := b2_eq h; obtain ⟨r_1, s_2, hc_3, h⟩ := h
  refine R_call (rest := []) [.int r_1] (R_runV (n := 1) (As := [.int a1]) ⟨hx, hb, hml, hown, ht⟩ (fun _ h9 => h9) hK hZ hA hB (c_X12_isLaw l g P σ a1 H.size hc_3) (R_recv hK hB (by decide) (cell_8 rfl) rfl) tw1062 tw1059 tw1061 pw27 tw5 ⟨by decide, by decide, by decide⟩ rfl rfl ⟨Nat.le_of_ble_eq_true rfl, Nat.le_of_ble_eq_true rfl⟩ rfl hl.1 rfl (Nat.le_of_ble_eq_true rfl) dX12_judge_2 ⟨Nat.zero_le _, Nat.zero_le _⟩) hB hA rfl (fun H locs hB => ?_)
  refine lv_if_eq (tgt := 17) hx hb dX12_judge_5 (by decide) (fun c_4 => ?_) (fun c_4 => ?_)
  · replace h := itp h c_4
    refine lv_iconst (v := -1) hx hb dX12_judge_17 (by decide) ?_
    exact hb_18 a1 a2 a3 (-1 : Int32) s_2 H locs ls h hB (lv_sub hl [0, 1, 2, 3] rfl)
  · replace h := itn h c_4
    refine lv_aload_n hx hb dX12_judge_8 rfl (lv_at hl 0 rfl) ?_
    refine lv_iload_n hx hb dX12_judge_9 rfl (lv_at hl 2 rfl) ?_
    refine lv_iload_n hx hb dX12_judge_10 rfl (lv_at hl 3 rfl) ?_
    replace h := b2_eq h; obtain ⟨r_12, s_13, hc_14, h⟩ := h
    refine R_call (rest := []) [.int r_12] (R_runV (n := 2) (As := [.int a2, .int a3]) ⟨hx, hb, hml, hown, ht⟩ (fun _ h9 => h9) hK hZ hA hB (c_X12_bars l g P s_2 a2 a3 H.size hc_14) (R_recv hK hB (by decide) (cell_8 rfl) rfl) tw1282 tw1279 tw1281 pw53 tw5 ⟨by decide, by decide, by decide⟩ rfl rfl ⟨Nat.le_of_ble_eq_true rfl, Nat.le_of_ble_eq_true rfl⟩ rfl hl.1 rfl (Nat.le_of_ble_eq_true rfl) dX12_judge_11 ⟨Nat.zero_le _, Nat.zero_le _⟩) hB hA rfl (fun H locs hB => ?_)
    refine lv_goto (tgt := 18) hx hb dX12_judge_14 (by decide) ?_
    exact hb_18 a1 a2 a3 r_12 s_13 H locs ls h hB (lv_sub hl [0, 1, 2, 3] rfl)
def f_X12_laws_b53 (x1 : Int32) (x2 : Int32) (x4 : Int32) (x5 : Int32) (σ1 : Hp) : Option ((Int32 × Int32 × Hp) ⊕ (Int32 × Hp)) := some (.inl (x4, (x5 + 1), σ1))
def f_X12_laws_t23 (x1 : Int32) (x2 : Int32) (x4 : Int32) (x5 : Int32) (σ1 : Hp) : Option ((Int32 × Int32 × Hp) ⊕ (Int32 × Hp)) := if (hI σ1 40 0) ≤ x5 then ex (some (x4, σ1)) else b2 (f_X12_wrongIn x5 x1 x2 σ1) (fun r_6 s_7 => if r_6 = (-1 : Int32) then f_X12_laws_b53 x1 x2 (x4 ||| ((1 : Int32) <<< (x5 &&& 31))) x5 s_7 else f_X12_laws_b53 x1 x2 x4 x5 s_7)
def f_X12_laws_s23 (x1 : Int32) (x2 : Int32) (v : (Int32 × Int32 × Hp)) : Option ((Int32 × Int32 × Hp) ⊕ (Int32 × Hp)) := f_X12_laws_t23 x1 x2 v.1 v.2.1 v.2.2
def f_X12_laws (a1 : Int32) (a2 : Int32) (σ : Hp) : Option (Int32 × Hp) := b2 (f_X12_bars a1 a2 σ) (fun r_1 s_2 => if r_1 = 0 then iter (f_X12_laws_s23 a1 a2) fuel ((0 : Int32), (0 : Int32), s_2) else b2 (f_X12_no r_1 s_2) (fun r_10 s_11 => some (r_10, s_11)))
set_option maxHeartbeats 4000000 in
set_option maxRecDepth 100000 in
theorem c_X12_laws (l : Launch) (g : tG) (P : Nat → Nat) (σ : Hp) (a1 : Int32) (a2 : Int32) (sz : Nat) {r : Int32} {τ : Hp} (h : f_X12_laws a1 a2 σ = some (r, τ)) : Met l yX12_laws (Cond.code yX12_laws cX12_laws 6 (some .int) :: tblG) ({ frames := 4, cells := 0, slots := 0, locals := 108 }) (va_Pc [.ref (gL g 40), .int a1, .int a2] (tPre g P σ sz)) (tQ (some (.int r)) (tPost g P τ (va_A (wC g P σ) sz)) (va_A (wC g P σ) sz)) 0 0 (va_A (wC g P σ) sz) := by
  refine T_start (B := fun A => tPost g P τ A) (by decide) (Nat.le_of_ble_eq_true rfl) ?_
  intro p e s m args below meth c ls0 A hx hb hml hr hown hlocks ht hnm hK hZ hA hB0 hl0
  have hL_23 : ∀ (x1 : Int32) (x2 : Int32) (n : Nat) (x4 : Int32) (x5 : Int32) (σ1 : Hp) (H : Heap) (locs : List Loc) (ls : Array Slot), iter (f_X12_laws_s23 x1 x2) n (x4, x5, σ1) = some (r, τ) → tB g P σ1 A s.heap H locs → lv_has ls 6 [(0, .ref (gL g 40)), (1, .int x1), (2, .int x2), (4, .int x4), (5, .int x5)] → WQ p l e { frames := 4, cells := 0, slots := 0, locals := 108 } s m args below meth c g P A (some (.int r)) τ H locs (F0 m 23 ls []) := by
    intro x1 x2 n
    induction n with
    | zero =>
      intro x4 x5 σ1 H locs ls h hB hl
      exact (iter_0 h).elim
    | succ n ih1 =>
      intro x4 x5 σ1 H locs ls h hB hl
      replace h := iter_eq h; obtain ⟨z1, hh1, hx1⟩ := h
      have hb_53 : ∀ (x4 : Int32) (x5 : Int32) (σ1 : Hp) (H : Heap) (locs : List Loc) (ls : Array Slot), f_X12_laws_b53 x1 x2 x4 x5 σ1 = some z1 → tB g P σ1 A s.heap H locs → lv_has ls 6 [(0, .ref (gL g 40)), (1, .int x1), (2, .int x2), (4, .int x4), (5, .int x5)] → WQ p l e { frames := 4, cells := 0, slots := 0, locals := 108 } s m args below meth c g P A (some (.int r)) τ H locs (F0 m 53 ls []) := by
        intro x4 x5 σ1 H locs ls h hB hl
        unfold f_X12_laws_b53 at h
        refine lv_iinc (v := x5 + 1) (lv' := [(5, .int (x5 + 1)), (0, .ref (gL g 40)), (1, .int x1), (2, .int x2), (4, .int x4)]) hx hb dX12_laws_53 hl (k := 4) rfl rfl (by decide) rfl (fun ls hl => ?_)
        refine lv_goto (tgt := 23) hx hb dX12_laws_56 (by decide) ?_
        obtain rfl := Option.some.inj h
        exact ih1 x4 (x5 + 1) σ1 H locs ls hx1 hB (lv_sub hl [1, 2, 3, 4, 0] rfl)
      have h : f_X12_laws_t23 x1 x2 x4 x5 σ1 = some z1 := hh1
      clear hh1
      unfold f_X12_laws_t23 at h
      refine lv_iload hx hb dX12_laws_23 (lv_at hl 4 rfl) ?_
      refine lv_aload_n hx hb dX12_laws_25 rfl (lv_at hl 0 rfl) ?_
      refine R_get (v := .int (hI σ1 40 0)) hx hb ht ui_X12 hown hK hB (by decide) (cell_8 rfl) rfl 0 (by decide) (ht _ tw916) (fun _ h9 => h9) rfl dX12_laws_26 ?_
      refine lv_icmp_ge (tgt := 59) hx hb dX12_laws_29 (by decide) (fun c_5 => ?_) (fun c_5 => ?_)
      · replace h := itp h c_5
        replace h := ex_eq h; obtain ⟨b1, h, hz1⟩ := h
        subst hz1
        have hz1 := (itk_inr hx1).symm
        subst hz1
        refine lv_iload hx hb dX12_laws_59 (lv_at hl 3 rfl) ?_
        obtain ⟨rfl, rfl⟩ := Prod.mk.inj (Option.some.inj h)
        exact W.iret hx hb hr (R_end hB) hB.2.2.2.2 dX12_laws_61
      · replace h := itn h c_5
        refine lv_aload_n hx hb dX12_laws_32 rfl (lv_at hl 0 rfl) ?_
        refine lv_iload hx hb dX12_laws_33 (lv_at hl 4 rfl) ?_
        refine lv_iload_n hx hb dX12_laws_35 rfl (lv_at hl 1 rfl) ?_
        refine lv_iload_n hx hb dX12_laws_36 rfl (lv_at hl 2 rfl) ?_
        replace h := b2_eq h; obtain ⟨r_6, s_7, hc_8, h⟩ := h
        refine R_call (rest := []) [.int r_6] (R_runV (n := 3) (As := [.int x5, .int x1, .int x2]) ⟨hx, hb, hml, hown, ht⟩ (fun _ h9 => h9) hK hZ hA hB (c_X12_wrongIn l g P σ1 x5 x1 x2 H.size hc_8) (R_recv hK hB (by decide) (cell_8 rfl) rfl) tw1286 tw1283 tw1285 pw54 tw5 ⟨by decide, by decide, by decide⟩ rfl rfl ⟨Nat.le_of_ble_eq_true rfl, Nat.le_of_ble_eq_true rfl⟩ rfl hl.1 rfl (Nat.le_of_ble_eq_true rfl) dX12_laws_37 ⟨Nat.zero_le _, Nat.zero_le _⟩) hB hA rfl (fun H locs hB => ?_)
        refine lv_iconst (v := -1) hx hb dX12_laws_40 (by decide) ?_
        refine lv_icmp_ne (tgt := 53) hx hb dX12_laws_41 (by decide) (fun c_9 => ?_) (fun c_9 => ?_)
        · replace h := itn h c_9
          exact hb_53 x4 x5 s_7 H locs ls h hB (lv_sub hl [0, 1, 2, 3, 4] rfl)
        · replace h := itp h c_9
          refine lv_iload hx hb dX12_laws_44 (lv_at hl 3 rfl) ?_
          refine lv_iconst (v := 1) hx hb dX12_laws_46 (by decide) ?_
          refine lv_iload hx hb dX12_laws_47 (lv_at hl 4 rfl) ?_
          refine lv_ishl hx hb dX12_laws_49 ?_
          refine lv_ior hx hb dX12_laws_50 ?_
          refine lv_istore (lv' := [(4, .int (x4 ||| ((1 : Int32) <<< (x5 &&& 31)))), (0, .ref (gL g 40)), (1, .int x1), (2, .int x2), (5, .int x5)]) hx hb dX12_laws_51 hl (by decide) rfl (fun ls hl => ?_)
          exact hb_53 (x4 ||| ((1 : Int32) <<< (x5 &&& 31))) x5 s_7 H locs ls h hB (lv_sub hl [1, 2, 3, 0, 4] rfl)
  suffices hmain : ∀ (H : Heap) (locs : List Loc) (ls : Array Slot), tB g P σ A s.heap H locs → lv_has ls 6 [(0, .ref (gL g 40)), (1, .int a1), (2, .int a2)] → WQ p l e { frames := 4, cells := 0, slots := 0, locals := 108 } s m args below meth c g P A (some (.int r)) τ H locs (F0 m 0 ls []) from hmain _ _ ls0 hB0 hl0
  intro H locs ls hB hl
  unfold f_X12_laws at h
  refine lv_aload_n hx hb dX12_laws_0 rfl (lv_at hl 0 rfl) ?_
  refine lv_iload_n hx hb dX12_laws_1 rfl (lv_at hl 1 rfl) ?_
  refine lv_iload_n hx hb dX12_laws_2 rfl (lv_at hl 2 rfl) ?_
  replace h := b2_eq h; obtain ⟨r_1, s_2, hc_3, h⟩ := h
  refine R_call (rest := []) [.int r_1] (R_runV (n := 2) (As := [.int a1, .int a2]) ⟨hx, hb, hml, hown, ht⟩ (fun _ h9 => h9) hK hZ hA hB (c_X12_bars l g P σ a1 a2 H.size hc_3) (R_recv hK hB (by decide) (cell_8 rfl) rfl) tw1282 tw1279 tw1281 pw53 tw5 ⟨by decide, by decide, by decide⟩ rfl rfl ⟨Nat.le_of_ble_eq_true rfl, Nat.le_of_ble_eq_true rfl⟩ rfl hl.1 rfl (Nat.le_of_ble_eq_true rfl) dX12_laws_3 ⟨Nat.zero_le _, Nat.zero_le _⟩) hB hA rfl (fun H locs hB => ?_)
  refine lv_istore_n (lv' := [(3, .int r_1), (0, .ref (gL g 40)), (1, .int a1), (2, .int a2)]) hx hb dX12_laws_6 rfl hl (by decide) rfl (fun ls hl => ?_)
  refine lv_iconst (v := 0) hx hb dX12_laws_7 (by decide) ?_
  refine lv_istore (lv' := [(4, .int (0 : Int32)), (3, .int r_1), (0, .ref (gL g 40)), (1, .int a1), (2, .int a2)]) hx hb dX12_laws_8 hl (by decide) rfl (fun ls hl => ?_)
  refine lv_iload_n hx hb dX12_laws_10 rfl (lv_at hl 1 rfl) ?_
  refine lv_if_eq (tgt := 20) hx hb dX12_laws_11 (by decide) (fun c_4 => ?_) (fun c_4 => ?_)
  · replace h := itp h c_4
    refine lv_iconst (v := 0) hx hb dX12_laws_20 (by decide) ?_
    refine lv_istore (lv' := [(5, .int (0 : Int32)), (4, .int (0 : Int32)), (3, .int r_1), (0, .ref (gL g 40)), (1, .int a1), (2, .int a2)]) hx hb dX12_laws_21 hl (by decide) rfl (fun ls hl => ?_)
    exact hL_23 a1 a2 fuel (0 : Int32) (0 : Int32) s_2 H locs ls h hB (lv_sub hl [3, 4, 5, 1, 0] rfl)
  · replace h := itn h c_4
    refine lv_aload_n hx hb dX12_laws_14 rfl (lv_at hl 2 rfl) ?_
    refine lv_iload_n hx hb dX12_laws_15 rfl (lv_at hl 1 rfl) ?_
    replace h := b2_eq h; obtain ⟨r_10, s_11, hc_12, h⟩ := h
    refine R_call (rest := []) [.int r_10] (R_runV (n := 1) (As := [.int r_1]) ⟨hx, hb, hml, hown, ht⟩ (fun _ h9 => h9) hK hZ hA hB (c_X12_no l g P s_2 r_1 H.size hc_12) (R_recv hK hB (by decide) (cell_8 rfl) rfl) tw1042 tw1039 tw1041 pw26 tw5 ⟨by decide, by decide, by decide⟩ rfl rfl ⟨Nat.le_of_ble_eq_true rfl, Nat.le_of_ble_eq_true rfl⟩ rfl hl.1 rfl (Nat.le_of_ble_eq_true rfl) dX12_laws_16 ⟨Nat.zero_le _, Nat.zero_le _⟩) hB hA rfl (fun H locs hB => ?_)
    obtain ⟨rfl, rfl⟩ := Prod.mk.inj (Option.some.inj h)
    exact W.iret hx hb hr (R_end hB) hB.2.2.2.2 dX12_laws_19
def f_X12_write (a1 : Int64) (σ : Hp) : Option (Int32 × Hp) := b2 (f_X12_isNumber a1 σ) (fun r_1 s_2 => if r_1 = 0 then b2 (f_X12_no (-6 : Int32) s_2) (fun r_12 s_13 => some (r_12, s_13)) else if (hI s_2 40 1) = (20 : Int32) then b2 (f_X12_no (-7 : Int32) s_2) (fun r_9 s_10 => some (r_9, s_10)) else b2 (f_X12_writes a1 s_2) (fun r_6 s_7 => some (r_6, s_7)))
set_option maxHeartbeats 4000000 in
set_option maxRecDepth 100000 in
theorem c_X12_write (l : Launch) (g : tG) (P : Nat → Nat) (σ : Hp) (a1 : Int64) (sz : Nat) {r : Int32} {τ : Hp} (h : f_X12_write a1 σ = some (r, τ)) : Met l yX12_write (Cond.code yX12_write cX12_write 3 (some .int) :: tblG) ({ frames := 1, cells := 0, slots := 0, locals := 22 }) (va_Pc [.ref (gL g 40), .long a1] (tPre g P σ sz)) (tQ (some (.int r)) (tPost g P τ (va_A (wC g P σ) sz)) (va_A (wC g P σ) sz)) 0 0 (va_A (wC g P σ) sz) := by
  refine T_start (B := fun A => tPost g P τ A) (by decide) (Nat.le_of_ble_eq_true rfl) ?_
  intro p e s m args below meth c ls0 A hx hb hml hr hown hlocks ht hnm hK hZ hA hB0 hl0
  suffices hmain : ∀ (H : Heap) (locs : List Loc) (ls : Array Slot), tB g P σ A s.heap H locs → lv_has ls 3 [(0, .ref (gL g 40)), (1, .long a1)] → WQ p l e { frames := 1, cells := 0, slots := 0, locals := 22 } s m args below meth c g P A (some (.int r)) τ H locs (F0 m 0 ls []) from hmain _ _ ls0 hB0 hl0
  intro H locs ls hB hl
  unfold f_X12_write at h
  refine lv_aload_n hx hb dX12_write_0 rfl (lv_at hl 0 rfl) ?_
  refine lv_lload_n hx hb dX12_write_1 rfl (lv_at hl 1 rfl) ?_
  replace h := b2_eq h; obtain ⟨r_1, s_2, hc_3, h⟩ := h
  refine R_call (rest := []) [.int r_1] (R_runV (n := 1) (As := [.long a1]) ⟨hx, hb, hml, hown, ht⟩ (fun _ h9 => h9) hK hZ hA hB (c_X12_isNumber l g P σ a1 H.size hc_3) (R_recv hK hB (by decide) (cell_8 rfl) rfl) tw1177 tw1174 tw1176 pw45 tw5 ⟨by decide, by decide, by decide⟩ rfl rfl ⟨Nat.le_of_ble_eq_true rfl, Nat.le_of_ble_eq_true rfl⟩ rfl hl.1 rfl (Nat.le_of_ble_eq_true rfl) dX12_write_2 ⟨Nat.zero_le _, Nat.zero_le _⟩) hB hA rfl (fun H locs hB => ?_)
  refine lv_if_ne (tgt := 15) hx hb dX12_write_5 (by decide) (fun c_4 => ?_) (fun c_4 => ?_)
  · replace h := itn h c_4
    refine lv_aload_n hx hb dX12_write_15 rfl (lv_at hl 0 rfl) ?_
    refine R_get (v := .int (hI s_2 40 1)) hx hb ht ui_X12 hown hK hB (by decide) (cell_8 rfl) rfl 1 (by decide) (ht _ tw917) (fun _ h9 => h9) rfl dX12_write_16 ?_
    refine lv_bipush (v := 20) hx hb dX12_write_19 (by decide) ?_
    refine lv_icmp_ne (tgt := 33) hx hb dX12_write_21 (by decide) (fun c_5 => ?_) (fun c_5 => ?_)
    · replace h := itn h c_5
      refine lv_aload_n hx hb dX12_write_33 rfl (lv_at hl 0 rfl) ?_
      refine lv_lload_n hx hb dX12_write_34 rfl (lv_at hl 1 rfl) ?_
      replace h := b2_eq h; obtain ⟨r_6, s_7, hc_8, h⟩ := h
      refine R_call (rest := []) [.int r_6] (R_runV (n := 1) (As := [.long a1]) ⟨hx, hb, hml, hown, ht⟩ (fun _ h9 => h9) hK hZ hA hB (c_X12_writes l g P s_2 a1 H.size hc_8) (R_recv hK hB (by decide) (cell_8 rfl) rfl) tw1165 tw1162 tw1164 pw44 tw5 ⟨by decide, by decide, by decide⟩ rfl rfl ⟨Nat.le_of_ble_eq_true rfl, Nat.le_of_ble_eq_true rfl⟩ rfl hl.1 rfl (Nat.le_of_ble_eq_true rfl) dX12_write_35 ⟨Nat.zero_le _, Nat.zero_le _⟩) hB hA rfl (fun H locs hB => ?_)
      obtain ⟨rfl, rfl⟩ := Prod.mk.inj (Option.some.inj h)
      exact W.iret hx hb hr (R_end hB) hB.2.2.2.2 dX12_write_38
    · replace h := itp h c_5
      refine lv_aload_n hx hb dX12_write_24 rfl (lv_at hl 0 rfl) ?_
      refine lv_bipush (v := -7) hx hb dX12_write_25 (by decide) ?_
      replace h := b2_eq h; obtain ⟨r_9, s_10, hc_11, h⟩ := h
      refine R_call (rest := []) [.int r_9] (R_runV (n := 1) (As := [.int (-7 : Int32)]) ⟨hx, hb, hml, hown, ht⟩ (fun _ h9 => h9) hK hZ hA hB (c_X12_no l g P s_2 (-7 : Int32) H.size hc_11) (R_recv hK hB (by decide) (cell_8 rfl) rfl) tw1042 tw1039 tw1041 pw26 tw5 ⟨by decide, by decide, by decide⟩ rfl rfl ⟨Nat.le_of_ble_eq_true rfl, Nat.le_of_ble_eq_true rfl⟩ rfl hl.1 rfl (Nat.le_of_ble_eq_true rfl) dX12_write_27 ⟨Nat.zero_le _, Nat.zero_le _⟩) hB hA rfl (fun H locs hB => ?_)
      refine lv_goto (tgt := 38) hx hb dX12_write_30 (by decide) ?_
      obtain ⟨rfl, rfl⟩ := Prod.mk.inj (Option.some.inj h)
      exact W.iret hx hb hr (R_end hB) hB.2.2.2.2 dX12_write_38
  · replace h := itp h c_4
    refine lv_aload_n hx hb dX12_write_8 rfl (lv_at hl 0 rfl) ?_
    refine lv_bipush (v := -6) hx hb dX12_write_9 (by decide) ?_
    replace h := b2_eq h; obtain ⟨r_12, s_13, hc_14, h⟩ := h
    refine R_call (rest := []) [.int r_12] (R_runV (n := 1) (As := [.int (-6 : Int32)]) ⟨hx, hb, hml, hown, ht⟩ (fun _ h9 => h9) hK hZ hA hB (c_X12_no l g P s_2 (-6 : Int32) H.size hc_14) (R_recv hK hB (by decide) (cell_8 rfl) rfl) tw1042 tw1039 tw1041 pw26 tw5 ⟨by decide, by decide, by decide⟩ rfl rfl ⟨Nat.le_of_ble_eq_true rfl, Nat.le_of_ble_eq_true rfl⟩ rfl hl.1 rfl (Nat.le_of_ble_eq_true rfl) dX12_write_11 ⟨Nat.zero_le _, Nat.zero_le _⟩) hB hA rfl (fun H locs hB => ?_)
    obtain ⟨rfl, rfl⟩ := Prod.mk.inj (Option.some.inj h)
    exact W.iret hx hb hr (R_end hB) hB.2.2.2.2 dX12_write_14
def f_X12_slate_b21 (σ1 : Hp) : Option (Int64 × Hp) := b2 (f_X12_no (-5 : Int32) σ1) (fun r_2 s_3 => some (r_2.toInt64, s_3))
def f_X12_slate (a1 : Int32) (σ : Hp) : Option (Int64 × Hp) := if a1 < 0 then f_X12_slate_b21 σ else if (hI σ 40 1) ≤ a1 then f_X12_slate_b21 σ else ck (inb a1 20 = true) (some ((hJ σ 49 a1.toNatClampNeg), σ))
set_option maxHeartbeats 4000000 in
set_option maxRecDepth 100000 in
theorem c_X12_slate (l : Launch) (g : tG) (P : Nat → Nat) (σ : Hp) (a1 : Int32) (sz : Nat) {r : Int64} {τ : Hp} (h : f_X12_slate a1 σ = some (r, τ)) : Met l yX12_slate (Cond.code yX12_slate cX12_slate 2 (some .long) :: tblG) ({ frames := 1, cells := 0, slots := 0, locals := 21 }) (va_Pc [.ref (gL g 40), .int a1] (tPre g P σ sz)) (tQ (some (.long r)) (tPost g P τ (va_A (wC g P σ) sz)) (va_A (wC g P σ) sz)) 0 0 (va_A (wC g P σ) sz) := by
  refine T_start (B := fun A => tPost g P τ A) (by decide) (Nat.le_of_ble_eq_true rfl) ?_
  intro p e s m args below meth c ls0 A hx hb hml hr hown hlocks ht hnm hK hZ hA hB0 hl0
  have hb_21 : ∀ (σ1 : Hp) (H : Heap) (locs : List Loc) (ls : Array Slot), f_X12_slate_b21 σ1 = some (r, τ) → tB g P σ1 A s.heap H locs → lv_has ls 2 [(0, .ref (gL g 40))] → WQ p l e { frames := 1, cells := 0, slots := 0, locals := 21 } s m args below meth c g P A (some (.long r)) τ H locs (F0 m 21 ls []) := by
    intro σ1 H locs ls h hB hl
    unfold f_X12_slate_b21 at h
    refine lv_aload_n hx hb dX12_slate_21 rfl (lv_at hl 0 rfl) ?_
    refine lv_bipush (v := -5) hx hb dX12_slate_22 (by decide) ?_
    replace h := b2_eq h; obtain ⟨r_2, s_3, hc_4, h⟩ := h
    refine R_call (rest := []) [.int r_2] (R_runV (n := 1) (As := [.int (-5 : Int32)]) ⟨hx, hb, hml, hown, ht⟩ (fun _ h9 => h9) hK hZ hA hB (c_X12_no l g P σ1 (-5 : Int32) H.size hc_4) (R_recv hK hB (by decide) (cell_8 rfl) rfl) tw1042 tw1039 tw1041 pw26 tw5 ⟨by decide, by decide, by decide⟩ rfl rfl ⟨Nat.le_of_ble_eq_true rfl, Nat.le_of_ble_eq_true rfl⟩ rfl hl.1 rfl (Nat.le_of_ble_eq_true rfl) dX12_slate_24 ⟨Nat.zero_le _, Nat.zero_le _⟩) hB hA rfl (fun H locs hB => ?_)
    refine lv_i2l (v := r_2.toInt64) hx hb dX12_slate_27 rfl ?_
    obtain ⟨rfl, rfl⟩ := Prod.mk.inj (Option.some.inj h)
    exact W.lret hx hb hr (R_end hB) hB.2.2.2.2 dX12_slate_28
  suffices hmain : ∀ (H : Heap) (locs : List Loc) (ls : Array Slot), tB g P σ A s.heap H locs → lv_has ls 2 [(0, .ref (gL g 40)), (1, .int a1)] → WQ p l e { frames := 1, cells := 0, slots := 0, locals := 21 } s m args below meth c g P A (some (.long r)) τ H locs (F0 m 0 ls []) from hmain _ _ ls0 hB0 hl0
  intro H locs ls hB hl
  unfold f_X12_slate at h
  refine lv_iload_n hx hb dX12_slate_0 rfl (lv_at hl 1 rfl) ?_
  refine lv_if_lt (tgt := 21) hx hb dX12_slate_1 (by decide) (fun c_1 => ?_) (fun c_1 => ?_)
  · replace h := itp h c_1
    exact hb_21 σ H locs ls h hB (lv_sub hl [0] rfl)
  · replace h := itn h c_1
    refine lv_iload_n hx hb dX12_slate_4 rfl (lv_at hl 1 rfl) ?_
    refine lv_aload_n hx hb dX12_slate_5 rfl (lv_at hl 0 rfl) ?_
    refine R_get (v := .int (hI σ 40 1)) hx hb ht ui_X12 hown hK hB (by decide) (cell_8 rfl) rfl 1 (by decide) (ht _ tw917) (fun _ h9 => h9) rfl dX12_slate_6 ?_
    refine lv_icmp_ge (tgt := 21) hx hb dX12_slate_9 (by decide) (fun c_5 => ?_) (fun c_5 => ?_)
    · replace h := itp h c_5
      exact hb_21 σ H locs ls h hB (lv_sub hl [0] rfl)
    · replace h := itn h c_5
      refine lv_aload_n hx hb dX12_slate_12 rfl (lv_at hl 0 rfl) ?_
      refine R_get (v := .ref (gL g 49)) hx hb ht ui_X12 hown hK hB (by decide) (cell_8 rfl) rfl 9 (by decide) (ht _ tw925) (fun _ h9 => h9) rfl dX12_slate_13 ?_
      refine lv_iload_n hx hb dX12_slate_16 rfl (lv_at hl 1 rfl) ?_
      replace h := ck_eq h; obtain ⟨q_6, h⟩ := h
      refine R_lald hx hb hK hB rfl (inb_eq q_6) dX12_slate_17 ?_
      refine lv_goto (tgt := 28) hx hb dX12_slate_18 (by decide) ?_
      obtain ⟨rfl, rfl⟩ := Prod.mk.inj (Option.some.inj h)
      exact W.lret hx hb hr (R_end hB) hB.2.2.2.2 dX12_slate_28
def f_X12_on_b32 (σ1 : Hp) : Option (Int32 × Hp) := b2 (f_X12_no (-6 : Int32) σ1) (fun r_6 s_7 => some (r_6, s_7))
def f_X12_on_t41 (x1 : Int32) (x2 : Int32) (x3 : Int32) (σ1 : Hp) : Option ((Int32 × Hp) ⊕ (Int32 × Hp)) := if x2 ≤ x3 then ex (some (x3, σ1)) else if (20 : Int32) ≤ (hI σ1 40 1) then ex (some (x3, σ1)) else ck (inb ((hI σ1 40 1) - (1 : Int32)) 20 = true) (b2 (f_X12_nextOf x1 (hJ σ1 49 ((hI σ1 40 1) - (1 : Int32)).toNatClampNeg) σ1) (fun r_14 s_15 => if (lg_cmp r_14 (-1 : Int64)) = 0 then ex (some (x3, s_15)) else b2 (f_X12_writes r_14 s_15) (fun r_18 s_19 => some (.inl ((x3 + 1), s_19)))))
def f_X12_on_s41 (x1 : Int32) (x2 : Int32) (v : (Int32 × Hp)) : Option ((Int32 × Hp) ⊕ (Int32 × Hp)) := f_X12_on_t41 x1 x2 v.1 v.2
def f_X12_on (a1 : Int32) (a2 : Int32) (σ : Hp) : Option (Int32 × Hp) := b2 (f_X12_isLaw a1 σ) (fun r_1 s_2 => if r_1 = 0 then b2 (f_X12_no (-1 : Int32) s_2) (fun r_21 s_22 => some (r_21, s_22)) else if a2 < (1 : Int32) then f_X12_on_b32 s_2 else if (20 : Int32) < a2 then f_X12_on_b32 s_2 else if (hI s_2 40 1) = 0 then f_X12_on_b32 s_2 else iter (f_X12_on_s41 a1 a2) fuel ((0 : Int32), s_2))
set_option maxHeartbeats 4000000 in
set_option maxRecDepth 100000 in
theorem c_X12_on (l : Launch) (g : tG) (P : Nat → Nat) (σ : Hp) (a1 : Int32) (a2 : Int32) (sz : Nat) {r : Int32} {τ : Hp} (h : f_X12_on a1 a2 σ = some (r, τ)) : Met l yX12_on (Cond.code yX12_on cX12_on 6 (some .int) :: tblG) ({ frames := 3, cells := 0, slots := 0, locals := 82 }) (va_Pc [.ref (gL g 40), .int a1, .int a2] (tPre g P σ sz)) (tQ (some (.int r)) (tPost g P τ (va_A (wC g P σ) sz)) (va_A (wC g P σ) sz)) 0 0 (va_A (wC g P σ) sz) := by
  refine T_start (B := fun A => tPost g P τ A) (by decide) (Nat.le_of_ble_eq_true rfl) ?_
  intro p e s m args below meth c ls0 A hx hb hml hr hown hlocks ht hnm hK hZ hA hB0 hl0
  have hb_32 : ∀ (σ1 : Hp) (H : Heap) (locs : List Loc) (ls : Array Slot), f_X12_on_b32 σ1 = some (r, τ) → tB g P σ1 A s.heap H locs → lv_has ls 6 [(0, .ref (gL g 40))] → WQ p l e { frames := 3, cells := 0, slots := 0, locals := 82 } s m args below meth c g P A (some (.int r)) τ H locs (F0 m 32 ls []) := by
    intro σ1 H locs ls h hB hl
    unfold f_X12_on_b32 at h
    refine lv_aload_n hx hb dX12_on_32 rfl (lv_at hl 0 rfl) ?_
    refine lv_bipush (v := -6) hx hb dX12_on_33 (by decide) ?_
    replace h := b2_eq h; obtain ⟨r_6, s_7, hc_8, h⟩ := h
    refine R_call (rest := []) [.int r_6] (R_runV (n := 1) (As := [.int (-6 : Int32)]) ⟨hx, hb, hml, hown, ht⟩ (fun _ h9 => h9) hK hZ hA hB (c_X12_no l g P σ1 (-6 : Int32) H.size hc_8) (R_recv hK hB (by decide) (cell_8 rfl) rfl) tw1042 tw1039 tw1041 pw26 tw5 ⟨by decide, by decide, by decide⟩ rfl rfl ⟨Nat.le_of_ble_eq_true rfl, Nat.le_of_ble_eq_true rfl⟩ rfl hl.1 rfl (Nat.le_of_ble_eq_true rfl) dX12_on_35 ⟨Nat.zero_le _, Nat.zero_le _⟩) hB hA rfl (fun H locs hB => ?_)
    obtain ⟨rfl, rfl⟩ := Prod.mk.inj (Option.some.inj h)
    exact W.iret hx hb hr (R_end hB) hB.2.2.2.2 dX12_on_38
  have hL_41 : ∀ (x1 : Int32) (x2 : Int32) (n : Nat) (x3 : Int32) (σ1 : Hp) (H : Heap) (locs : List Loc) (ls : Array Slot), iter (f_X12_on_s41 x1 x2) n (x3, σ1) = some (r, τ) → tB g P σ1 A s.heap H locs → lv_has ls 6 [(0, .ref (gL g 40)), (1, .int x1), (2, .int x2), (3, .int x3)] → WQ p l e { frames := 3, cells := 0, slots := 0, locals := 82 } s m args below meth c g P A (some (.int r)) τ H locs (F0 m 41 ls []) := by
    intro x1 x2 n
    induction n with
    | zero =>
      intro x3 σ1 H locs ls h hB hl
      exact (iter_0 h).elim
    | succ n ih1 =>
      intro x3 σ1 H locs ls h hB hl
      replace h := iter_eq h; obtain ⟨z1, hh1, hx1⟩ := h
      have h : f_X12_on_t41 x1 x2 x3 σ1 = some z1 := hh1
      clear hh1
      unfold f_X12_on_t41 at h
      refine lv_iload_n hx hb dX12_on_41 rfl (lv_at hl 3 rfl) ?_
      refine lv_iload_n hx hb dX12_on_42 rfl (lv_at hl 2 rfl) ?_
      refine lv_icmp_ge (tgt := 97) hx hb dX12_on_43 (by decide) (fun c_11 => ?_) (fun c_11 => ?_)
      · replace h := itp h c_11
        replace h := ex_eq h; obtain ⟨b1, h, hz1⟩ := h
        subst hz1
        have hz1 := (itk_inr hx1).symm
        subst hz1
        refine lv_iload_n hx hb dX12_on_97 rfl (lv_at hl 3 rfl) ?_
        obtain ⟨rfl, rfl⟩ := Prod.mk.inj (Option.some.inj h)
        exact W.iret hx hb hr (R_end hB) hB.2.2.2.2 dX12_on_98
      · replace h := itn h c_11
        refine lv_aload_n hx hb dX12_on_46 rfl (lv_at hl 0 rfl) ?_
        refine R_get (v := .int (hI σ1 40 1)) hx hb ht ui_X12 hown hK hB (by decide) (cell_8 rfl) rfl 1 (by decide) (ht _ tw917) (fun _ h9 => h9) rfl dX12_on_47 ?_
        refine lv_bipush (v := 20) hx hb dX12_on_50 (by decide) ?_
        refine lv_icmp_ge (tgt := 97) hx hb dX12_on_52 (by decide) (fun c_12 => ?_) (fun c_12 => ?_)
        · replace h := itp h c_12
          replace h := ex_eq h; obtain ⟨b1, h, hz1⟩ := h
          subst hz1
          have hz1 := (itk_inr hx1).symm
          subst hz1
          refine lv_iload_n hx hb dX12_on_97 rfl (lv_at hl 3 rfl) ?_
          obtain ⟨rfl, rfl⟩ := Prod.mk.inj (Option.some.inj h)
          exact W.iret hx hb hr (R_end hB) hB.2.2.2.2 dX12_on_98
        · replace h := itn h c_12
          refine lv_aload_n hx hb dX12_on_55 rfl (lv_at hl 0 rfl) ?_
          refine lv_iload_n hx hb dX12_on_56 rfl (lv_at hl 1 rfl) ?_
          refine lv_aload_n hx hb dX12_on_57 rfl (lv_at hl 0 rfl) ?_
          refine R_get (v := .ref (gL g 49)) hx hb ht ui_X12 hown hK hB (by decide) (cell_8 rfl) rfl 9 (by decide) (ht _ tw925) (fun _ h9 => h9) rfl dX12_on_58 ?_
          refine lv_aload_n hx hb dX12_on_61 rfl (lv_at hl 0 rfl) ?_
          refine R_get (v := .int (hI σ1 40 1)) hx hb ht ui_X12 hown hK hB (by decide) (cell_8 rfl) rfl 1 (by decide) (ht _ tw917) (fun _ h9 => h9) rfl dX12_on_62 ?_
          refine lv_iconst (v := 1) hx hb dX12_on_65 (by decide) ?_
          refine lv_isub hx hb dX12_on_66 ?_
          replace h := ck_eq h; obtain ⟨q_13, h⟩ := h
          refine R_lald hx hb hK hB rfl (inb_eq q_13) dX12_on_67 ?_
          replace h := b2_eq h; obtain ⟨r_14, s_15, hc_16, h⟩ := h
          refine R_call (rest := []) [.long r_14] (R_runV (n := 2) (As := [.int x1, .long (hJ σ1 49 ((hI σ1 40 1) - (1 : Int32)).toNatClampNeg)]) ⟨hx, hb, hml, hown, ht⟩ (fun _ h9 => h9) hK hZ hA hB (c_X12_nextOf l g P σ1 x1 (hJ σ1 49 ((hI σ1 40 1) - (1 : Int32)).toNatClampNeg) H.size hc_16) (R_recv hK hB (by decide) (cell_8 rfl) rfl) tw1075 tw1072 tw1074 pw28 tw5 ⟨by decide, by decide, by decide⟩ rfl rfl ⟨Nat.le_of_ble_eq_true rfl, Nat.le_of_ble_eq_true rfl⟩ rfl hl.1 rfl (Nat.le_of_ble_eq_true rfl) dX12_on_68 ⟨Nat.zero_le _, Nat.zero_le _⟩) hB hA rfl (fun H locs hB => ?_)
          refine lv_lstore (lv' := [(4, .long r_14), (0, .ref (gL g 40)), (1, .int x1), (2, .int x2), (3, .int x3)]) hx hb dX12_on_71 hl (by decide) rfl (fun ls hl => ?_)
          refine lv_lload hx hb dX12_on_73 (lv_at hl 0 rfl) ?_
          refine lv_ldc2 (v := -1) hx hb hown (ht _ tw1089) dX12_on_75 ?_
          refine W.lcmp hx hb dX12_on_78 ?_
          refine lv_if_ne (tgt := 84) hx hb dX12_on_79 (by decide) (fun c_17 => ?_) (fun c_17 => ?_)
          · replace h := itn h c_17
            refine lv_aload_n hx hb dX12_on_84 rfl (lv_at hl 1 rfl) ?_
            refine lv_lload hx hb dX12_on_85 (lv_at hl 0 rfl) ?_
            replace h := b2_eq h; obtain ⟨r_18, s_19, hc_20, h⟩ := h
            refine R_call (rest := []) [.int r_18] (R_runV (n := 1) (As := [.long r_14]) ⟨hx, hb, hml, hown, ht⟩ (fun _ h9 => h9) hK hZ hA hB (c_X12_writes l g P s_15 r_14 H.size hc_20) (R_recv hK hB (by decide) (cell_8 rfl) rfl) tw1165 tw1162 tw1164 pw44 tw5 ⟨by decide, by decide, by decide⟩ rfl rfl ⟨Nat.le_of_ble_eq_true rfl, Nat.le_of_ble_eq_true rfl⟩ rfl hl.1 rfl (Nat.le_of_ble_eq_true rfl) dX12_on_87 ⟨Nat.zero_le _, Nat.zero_le _⟩) hB hA rfl (fun H locs hB => ?_)
            refine lv_pop hx hb dX12_on_90 rfl ?_
            refine lv_iinc (v := x3 + 1) (lv' := [(3, .int (x3 + 1)), (4, .long r_14), (0, .ref (gL g 40)), (1, .int x1), (2, .int x2)]) hx hb dX12_on_91 hl (k := 4) rfl rfl (by decide) rfl (fun ls hl => ?_)
            refine lv_goto (tgt := 41) hx hb dX12_on_94 (by decide) ?_
            obtain rfl := Option.some.inj h
            exact ih1 (x3 + 1) s_19 H locs ls hx1 hB (lv_sub hl [2, 3, 4, 0] rfl)
          · replace h := itp h c_17
            replace h := ex_eq h; obtain ⟨b1, h, hz1⟩ := h
            subst hz1
            have hz1 := (itk_inr hx1).symm
            subst hz1
            refine lv_iload_n hx hb dX12_on_82 rfl (lv_at hl 4 rfl) ?_
            obtain ⟨rfl, rfl⟩ := Prod.mk.inj (Option.some.inj h)
            exact W.iret hx hb hr (R_end hB) hB.2.2.2.2 dX12_on_83
  suffices hmain : ∀ (H : Heap) (locs : List Loc) (ls : Array Slot), tB g P σ A s.heap H locs → lv_has ls 6 [(0, .ref (gL g 40)), (1, .int a1), (2, .int a2)] → WQ p l e { frames := 3, cells := 0, slots := 0, locals := 82 } s m args below meth c g P A (some (.int r)) τ H locs (F0 m 0 ls []) from hmain _ _ ls0 hB0 hl0
  intro H locs ls hB hl
  unfold f_X12_on at h
  refine lv_aload_n hx hb dX12_on_0 rfl (lv_at hl 0 rfl) ?_
  refine lv_iload_n hx hb dX12_on_1 rfl (lv_at hl 1 rfl) ?_
  replace h := b2_eq h; obtain ⟨r_1, s_2, hc_3, h⟩ := h
  refine R_call (rest := []) [.int r_1] (R_runV (n := 1) (As := [.int a1]) ⟨hx, hb, hml, hown, ht⟩ (fun _ h9 => h9) hK hZ hA hB (c_X12_isLaw l g P σ a1 H.size hc_3) (R_recv hK hB (by decide) (cell_8 rfl) rfl) tw1062 tw1059 tw1061 pw27 tw5 ⟨by decide, by decide, by decide⟩ rfl rfl ⟨Nat.le_of_ble_eq_true rfl, Nat.le_of_ble_eq_true rfl⟩ rfl hl.1 rfl (Nat.le_of_ble_eq_true rfl) dX12_on_2 ⟨Nat.zero_le _, Nat.zero_le _⟩) hB hA rfl (fun H locs hB => ?_)
  refine lv_if_ne (tgt := 14) hx hb dX12_on_5 (by decide) (fun c_4 => ?_) (fun c_4 => ?_)
  · replace h := itn h c_4
    refine lv_iload_n hx hb dX12_on_14 rfl (lv_at hl 2 rfl) ?_
    refine lv_iconst (v := 1) hx hb dX12_on_15 (by decide) ?_
    refine lv_icmp_lt (tgt := 32) hx hb dX12_on_16 (by decide) (fun c_5 => ?_) (fun c_5 => ?_)
    · replace h := itp h c_5
      exact hb_32 s_2 H locs ls h hB (lv_sub hl [0] rfl)
    · replace h := itn h c_5
      refine lv_iload_n hx hb dX12_on_19 rfl (lv_at hl 2 rfl) ?_
      refine lv_bipush (v := 20) hx hb dX12_on_20 (by decide) ?_
      refine lv_icmp_gt (tgt := 32) hx hb dX12_on_22 (by decide) (fun c_9 => ?_) (fun c_9 => ?_)
      · replace h := itp h c_9
        exact hb_32 s_2 H locs ls h hB (lv_sub hl [0] rfl)
      · replace h := itn h c_9
        refine lv_aload_n hx hb dX12_on_25 rfl (lv_at hl 0 rfl) ?_
        refine R_get (v := .int (hI s_2 40 1)) hx hb ht ui_X12 hown hK hB (by decide) (cell_8 rfl) rfl 1 (by decide) (ht _ tw917) (fun _ h9 => h9) rfl dX12_on_26 ?_
        refine lv_if_ne (tgt := 39) hx hb dX12_on_29 (by decide) (fun c_10 => ?_) (fun c_10 => ?_)
        · replace h := itn h c_10
          refine lv_iconst (v := 0) hx hb dX12_on_39 (by decide) ?_
          refine lv_istore_n (lv' := [(3, .int (0 : Int32)), (0, .ref (gL g 40)), (1, .int a1), (2, .int a2)]) hx hb dX12_on_40 rfl hl (by decide) rfl (fun ls hl => ?_)
          exact hL_41 a1 a2 fuel (0 : Int32) s_2 H locs ls h hB (lv_sub hl [1, 2, 3, 0] rfl)
        · replace h := itp h c_10
          exact hb_32 s_2 H locs ls h hB (lv_sub hl [0] rfl)
  · replace h := itp h c_4
    refine lv_aload_n hx hb dX12_on_8 rfl (lv_at hl 0 rfl) ?_
    refine lv_iconst (v := -1) hx hb dX12_on_9 (by decide) ?_
    replace h := b2_eq h; obtain ⟨r_21, s_22, hc_23, h⟩ := h
    refine R_call (rest := []) [.int r_21] (R_runV (n := 1) (As := [.int (-1 : Int32)]) ⟨hx, hb, hml, hown, ht⟩ (fun _ h9 => h9) hK hZ hA hB (c_X12_no l g P s_2 (-1 : Int32) H.size hc_23) (R_recv hK hB (by decide) (cell_8 rfl) rfl) tw1042 tw1039 tw1041 pw26 tw5 ⟨by decide, by decide, by decide⟩ rfl rfl ⟨Nat.le_of_ble_eq_true rfl, Nat.le_of_ble_eq_true rfl⟩ rfl hl.1 rfl (Nat.le_of_ble_eq_true rfl) dX12_on_10 ⟨Nat.zero_le _, Nat.zero_le _⟩) hB hA rfl (fun H locs hB => ?_)
    obtain ⟨rfl, rfl⟩ := Prod.mk.inj (Option.some.inj h)
    exact W.iret hx hb hr (R_end hB) hB.2.2.2.2 dX12_on_13
def f_X12_wipe_b10 (σ1 : Hp) : Option (Int32 × Hp) := b2 (f_X12_no (-6 : Int32) σ1) (fun r_2 s_3 => some (r_2, s_3))
def f_X12_wipe (a1 : Int32) (σ : Hp) : Option (Int32 × Hp) := if a1 < 0 then f_X12_wipe_b10 σ else if a1 ≤ (20 : Int32) then if a1 ≤ (hI σ 40 1) then some ((hI (sI σ 40 1 ((hI σ 40 1) - a1)) 40 1), (sI σ 40 1 ((hI σ 40 1) - a1))) else some ((hI (sI σ 40 1 (0 : Int32)) 40 1), (sI σ 40 1 (0 : Int32))) else f_X12_wipe_b10 σ
set_option maxHeartbeats 4000000 in
set_option maxRecDepth 100000 in
theorem c_X12_wipe (l : Launch) (g : tG) (P : Nat → Nat) (σ : Hp) (a1 : Int32) (sz : Nat) {r : Int32} {τ : Hp} (h : f_X12_wipe a1 σ = some (r, τ)) : Met l yX12_wipe (Cond.code yX12_wipe cX12_wipe 2 (some .int) :: tblG) ({ frames := 1, cells := 0, slots := 0, locals := 21 }) (va_Pc [.ref (gL g 40), .int a1] (tPre g P σ sz)) (tQ (some (.int r)) (tPost g P τ (va_A (wC g P σ) sz)) (va_A (wC g P σ) sz)) 0 0 (va_A (wC g P σ) sz) := by
  refine T_start (B := fun A => tPost g P τ A) (by decide) (Nat.le_of_ble_eq_true rfl) ?_
  intro p e s m args below meth c ls0 A hx hb hml hr hown hlocks ht hnm hK hZ hA hB0 hl0
  have hb_10 : ∀ (σ1 : Hp) (H : Heap) (locs : List Loc) (ls : Array Slot), f_X12_wipe_b10 σ1 = some (r, τ) → tB g P σ1 A s.heap H locs → lv_has ls 2 [(0, .ref (gL g 40))] → WQ p l e { frames := 1, cells := 0, slots := 0, locals := 21 } s m args below meth c g P A (some (.int r)) τ H locs (F0 m 10 ls []) := by
    intro σ1 H locs ls h hB hl
    unfold f_X12_wipe_b10 at h
    refine lv_aload_n hx hb dX12_wipe_10 rfl (lv_at hl 0 rfl) ?_
    refine lv_bipush (v := -6) hx hb dX12_wipe_11 (by decide) ?_
    replace h := b2_eq h; obtain ⟨r_2, s_3, hc_4, h⟩ := h
    refine R_call (rest := []) [.int r_2] (R_runV (n := 1) (As := [.int (-6 : Int32)]) ⟨hx, hb, hml, hown, ht⟩ (fun _ h9 => h9) hK hZ hA hB (c_X12_no l g P σ1 (-6 : Int32) H.size hc_4) (R_recv hK hB (by decide) (cell_8 rfl) rfl) tw1042 tw1039 tw1041 pw26 tw5 ⟨by decide, by decide, by decide⟩ rfl rfl ⟨Nat.le_of_ble_eq_true rfl, Nat.le_of_ble_eq_true rfl⟩ rfl hl.1 rfl (Nat.le_of_ble_eq_true rfl) dX12_wipe_13 ⟨Nat.zero_le _, Nat.zero_le _⟩) hB hA rfl (fun H locs hB => ?_)
    obtain ⟨rfl, rfl⟩ := Prod.mk.inj (Option.some.inj h)
    exact W.iret hx hb hr (R_end hB) hB.2.2.2.2 dX12_wipe_16
  suffices hmain : ∀ (H : Heap) (locs : List Loc) (ls : Array Slot), tB g P σ A s.heap H locs → lv_has ls 2 [(0, .ref (gL g 40)), (1, .int a1)] → WQ p l e { frames := 1, cells := 0, slots := 0, locals := 21 } s m args below meth c g P A (some (.int r)) τ H locs (F0 m 0 ls []) from hmain _ _ ls0 hB0 hl0
  intro H locs ls hB hl
  unfold f_X12_wipe at h
  refine lv_iload_n hx hb dX12_wipe_0 rfl (lv_at hl 1 rfl) ?_
  refine lv_if_lt (tgt := 10) hx hb dX12_wipe_1 (by decide) (fun c_1 => ?_) (fun c_1 => ?_)
  · replace h := itp h c_1
    exact hb_10 σ H locs ls h hB (lv_sub hl [0] rfl)
  · replace h := itn h c_1
    refine lv_iload_n hx hb dX12_wipe_4 rfl (lv_at hl 1 rfl) ?_
    refine lv_bipush (v := 20) hx hb dX12_wipe_5 (by decide) ?_
    refine lv_icmp_le (tgt := 17) hx hb dX12_wipe_7 (by decide) (fun c_5 => ?_) (fun c_5 => ?_)
    · replace h := itp h c_5
      refine lv_aload_n hx hb dX12_wipe_17 rfl (lv_at hl 0 rfl) ?_
      refine lv_iload_n hx hb dX12_wipe_18 rfl (lv_at hl 1 rfl) ?_
      refine lv_aload_n hx hb dX12_wipe_19 rfl (lv_at hl 0 rfl) ?_
      refine R_get (v := .int (hI σ 40 1)) hx hb ht ui_X12 hown hK hB (by decide) (cell_8 rfl) rfl 1 (by decide) (ht _ tw917) (fun _ h9 => h9) rfl dX12_wipe_20 ?_
      refine lv_icmp_le (tgt := 30) hx hb dX12_wipe_23 (by decide) (fun c_6 => ?_) (fun c_6 => ?_)
      · replace h := itp h c_6
        refine lv_aload_n hx hb dX12_wipe_30 rfl (lv_at hl 0 rfl) ?_
        refine R_get (v := .int (hI σ 40 1)) hx hb ht ui_X12 hown hK hB (by decide) (cell_8 rfl) rfl 1 (by decide) (ht _ tw917) (fun _ h9 => h9) rfl dX12_wipe_31 ?_
        refine lv_iload_n hx hb dX12_wipe_34 rfl (lv_at hl 1 rfl) ?_
        refine lv_isub hx hb dX12_wipe_35 ?_
        refine R_putI (v := ((hI σ 40 1) - a1)) (ty := .int) hx hb ht ui_X12 tyX12 tyX12_ok nmX12 hown hK hB (by decide) (cell_8 rfl) rfl 1 (by decide) (ht _ tw917) (fun _ h9 => h9) rfl (by decide +kernel) rfl rfl (Nat.le_of_ble_eq_true rfl) (st8_1 rfl) dX12_wipe_36 (fun H locs hB => ?_)
        refine lv_aload_n hx hb dX12_wipe_39 rfl (lv_at hl 0 rfl) ?_
        refine R_get (v := .int (hI (sI σ 40 1 ((hI σ 40 1) - a1)) 40 1)) hx hb ht ui_X12 hown hK hB (by decide) (cell_8 rfl) rfl 1 (by decide) (ht _ tw917) (fun _ h9 => h9) rfl dX12_wipe_40 ?_
        obtain ⟨rfl, rfl⟩ := Prod.mk.inj (Option.some.inj h)
        exact W.iret hx hb hr (R_end hB) hB.2.2.2.2 dX12_wipe_43
      · replace h := itn h c_6
        refine lv_iconst (v := 0) hx hb dX12_wipe_26 (by decide) ?_
        refine lv_goto (tgt := 36) hx hb dX12_wipe_27 (by decide) ?_
        refine R_putI (v := (0 : Int32)) (ty := .int) hx hb ht ui_X12 tyX12 tyX12_ok nmX12 hown hK hB (by decide) (cell_8 rfl) rfl 1 (by decide) (ht _ tw917) (fun _ h9 => h9) rfl (by decide +kernel) rfl rfl (Nat.le_of_ble_eq_true rfl) (st8_1 rfl) dX12_wipe_36 (fun H locs hB => ?_)
        refine lv_aload_n hx hb dX12_wipe_39 rfl (lv_at hl 0 rfl) ?_
        refine R_get (v := .int (hI (sI σ 40 1 (0 : Int32)) 40 1)) hx hb ht ui_X12 hown hK hB (by decide) (cell_8 rfl) rfl 1 (by decide) (ht _ tw917) (fun _ h9 => h9) rfl dX12_wipe_40 ?_
        obtain ⟨rfl, rfl⟩ := Prod.mk.inj (Option.some.inj h)
        exact W.iret hx hb hr (R_end hB) hB.2.2.2.2 dX12_wipe_43
    · replace h := itn h c_5
      exact hb_10 σ H locs ls h hB (lv_sub hl [0] rfl)
def f_X12_draw (a1 : Int32) (σ : Hp) : Option (Int32 × Hp) := ck (¬ a1 = 0) (some ((((hI (sI σ 40 3 (((hI σ 40 3) * (1103515245 : Int32)) + (12345 : Int32))) 40 3).toUInt32 >>> ((16 : Int32).toUInt32 &&& Int32.toUInt32 31)).toInt32 - ((hI (sI σ 40 3 (((hI σ 40 3) * (1103515245 : Int32)) + (12345 : Int32))) 40 3).toUInt32 >>> ((16 : Int32).toUInt32 &&& Int32.toUInt32 31)).toInt32 / a1 * a1), (sI σ 40 3 (((hI σ 40 3) * (1103515245 : Int32)) + (12345 : Int32)))))
set_option maxHeartbeats 4000000 in
set_option maxRecDepth 100000 in
theorem c_X12_draw (l : Launch) (g : tG) (P : Nat → Nat) (σ : Hp) (a1 : Int32) (sz : Nat) {r : Int32} {τ : Hp} (h : f_X12_draw a1 σ = some (r, τ)) : Met l yX12_draw (Cond.code yX12_draw cX12_draw 2 (some .int) :: tblG) ({ frames := 0, cells := 0, slots := 0, locals := 0 }) (va_Pc [.ref (gL g 40), .int a1] (tPre g P σ sz)) (tQ (some (.int r)) (tPost g P τ (va_A (wC g P σ) sz)) (va_A (wC g P σ) sz)) 0 0 (va_A (wC g P σ) sz) := by
  refine T_start (B := fun A => tPost g P τ A) (by decide) (Nat.le_of_ble_eq_true rfl) ?_
  intro p e s m args below meth c ls0 A hx hb hml hr hown hlocks ht hnm hK hZ hA hB0 hl0
  suffices hmain : ∀ (H : Heap) (locs : List Loc) (ls : Array Slot), tB g P σ A s.heap H locs → lv_has ls 2 [(0, .ref (gL g 40)), (1, .int a1)] → WQ p l e { frames := 0, cells := 0, slots := 0, locals := 0 } s m args below meth c g P A (some (.int r)) τ H locs (F0 m 0 ls []) from hmain _ _ ls0 hB0 hl0
  intro H locs ls hB hl
  unfold f_X12_draw at h
  refine lv_aload_n hx hb dX12_draw_0 rfl (lv_at hl 0 rfl) ?_
  refine lv_aload_n hx hb dX12_draw_1 rfl (lv_at hl 0 rfl) ?_
  refine R_get (v := .int (hI σ 40 3)) hx hb ht ui_X12 hown hK hB (by decide) (cell_8 rfl) rfl 3 (by decide) (ht _ tw919) (fun _ h9 => h9) rfl dX12_draw_2 ?_
  refine lv_ldc (v := 1103515245) hx hb hown (ht _ tw1315) dX12_draw_5 ?_
  refine lv_imul hx hb dX12_draw_7 ?_
  refine lv_sipush (v := 12345) hx hb dX12_draw_8 (by decide) ?_
  refine lv_iadd hx hb dX12_draw_11 ?_
  refine R_putI (v := (((hI σ 40 3) * (1103515245 : Int32)) + (12345 : Int32))) (ty := .int) hx hb ht ui_X12 tyX12 tyX12_ok nmX12 hown hK hB (by decide) (cell_8 rfl) rfl 3 (by decide) (ht _ tw919) (fun _ h9 => h9) rfl (by decide +kernel) rfl rfl (Nat.le_of_ble_eq_true rfl) (st8_3 rfl) dX12_draw_12 (fun H locs hB => ?_)
  refine lv_aload_n hx hb dX12_draw_15 rfl (lv_at hl 0 rfl) ?_
  refine R_get (v := .int (hI (sI σ 40 3 (((hI σ 40 3) * (1103515245 : Int32)) + (12345 : Int32))) 40 3)) hx hb ht ui_X12 hown hK hB (by decide) (cell_8 rfl) rfl 3 (by decide) (ht _ tw919) (fun _ h9 => h9) rfl dX12_draw_16 ?_
  refine lv_bipush (v := 16) hx hb dX12_draw_19 (by decide) ?_
  refine lv_iushr (v := ((hI (sI σ 40 3 (((hI σ 40 3) * (1103515245 : Int32)) + (12345 : Int32))) 40 3).toUInt32 >>> ((16 : Int32).toUInt32 &&& Int32.toUInt32 31)).toInt32) hx hb dX12_draw_21 rfl ?_
  refine lv_iload_n hx hb dX12_draw_22 rfl (lv_at hl 1 rfl) ?_
  replace h := ck_eq h; obtain ⟨q_2, h⟩ := h
  refine lv_irem hx hb dX12_draw_23 q_2 ?_
  obtain ⟨rfl, rfl⟩ := Prod.mk.inj (Option.some.inj h)
  exact W.iret hx hb hr (R_end hB) hB.2.2.2.2 dX12_draw_24
def f_X12_lessons_b25 (σ1 : Hp) : Option (Int32 × Hp) := b2 (f_X12_no (-6 : Int32) σ1) (fun r_3 s_4 => some (r_3, s_4))
def f_X12_lessons_b168 (x1 : Int32) (x2 : Int32) (x3 : Int32) (σ1 : Hp) : Option ((Int32 × Int32 × Hp) ⊕ (Int32 × Hp)) := some (.inl (x2, (x3 + 1), σ1))
def f_X12_lessons_b160 (x1 : Int32) (x2 : Int32) (x3 : Int32) (x5 : Int32) (σ1 : Hp) : Option ((Int32 × Int32 × Hp) ⊕ (Int32 × Hp)) := if x5 = 0 then f_X12_lessons_b168 x1 x2 x3 σ1 else f_X12_lessons_b168 x1 (x2 + 1) x3 σ1
def f_X12_lessons_b157 (x1 : Int32) (x2 : Int32) (x3 : Int32) (x4 : Int32) (x5 : Int32) (σ1 : Hp) : Option ((Int32 × Hp) ⊕ ((Int32 × Int32 × Hp) ⊕ (Int32 × Hp))) := some (.inl (x5, σ1))
def f_X12_lessons_b143 (x1 : Int32) (x2 : Int32) (x3 : Int32) (x4 : Int32) (x6 : Int64) (xt0 : Int32) (σ1 : Hp) : Option ((Int32 × Hp) ⊕ ((Int32 × Int32 × Hp) ⊕ (Int32 × Hp))) := if xt0 = 0 then f_X12_lessons_b157 x1 x2 x3 x4 xt0 σ1 else b2 (f_X12_writes x6 σ1) (fun r_31 s_32 => f_X12_lessons_b157 x1 x2 x3 x4 xt0 s_32)
def f_X12_lessons_b127 (x1 : Int32) (x2 : Int32) (x3 : Int32) (x4 : Int32) (xt0 : Int64) (σ1 : Hp) : Option ((Int32 × Hp) ⊕ ((Int32 × Int32 × Hp) ⊕ (Int32 × Hp))) := if (lg_cmp xt0 (-1 : Int64)) = 0 then f_X12_lessons_b143 x1 x2 x3 x4 xt0 (0 : Int32) σ1 else f_X12_lessons_b143 x1 x2 x3 x4 xt0 (1 : Int32) σ1
def f_X12_lessons_t72 (x1 : Int32) (x2 : Int32) (x3 : Int32) (x4 : Int32) (x5 : Int32) (σ1 : Hp) : Option ((Int32 × Hp) ⊕ ((Int32 × Int32 × Hp) ⊕ (Int32 × Hp))) := if x5 = 0 then ex (f_X12_lessons_b160 x1 x2 x3 x5 σ1) else ck (inb ((hI σ1 40 1) - (1 : Int32)) 20 = true) (b2 (f_X12_isAlike (hJ σ1 49 ((hI σ1 40 1) - (1 : Int32)).toNatClampNeg) σ1) (fun r_20 s_21 => if r_20 = 0 then if (hI s_21 40 1) = (20 : Int32) then f_X12_lessons_b127 x1 x2 x3 x4 (-1 : Int64) s_21 else ck (inb ((hI s_21 40 1) - (1 : Int32)) 20 = true) (b2 (f_X12_nextOf x4 (hJ s_21 49 ((hI s_21 40 1) - (1 : Int32)).toNatClampNeg) s_21) (fun r_26 s_27 => f_X12_lessons_b127 x1 x2 x3 x4 r_26 s_27)) else ex (f_X12_lessons_b160 x1 x2 x3 x5 s_21)))
def f_X12_lessons_s72 (x1 : Int32) (x2 : Int32) (x3 : Int32) (x4 : Int32) (v : (Int32 × Hp)) : Option ((Int32 × Hp) ⊕ ((Int32 × Int32 × Hp) ⊕ (Int32 × Hp))) := f_X12_lessons_t72 x1 x2 x3 x4 v.1 v.2
def f_X12_lessons_t36 (x1 : Int32) (x2 : Int32) (x3 : Int32) (σ1 : Hp) : Option ((Int32 × Int32 × Hp) ⊕ (Int32 × Hp)) := if x1 ≤ x3 then ex (some (x2, σ1)) else b2 (f_X12_draw (1000 : Int32) (sI σ1 40 1 (0 : Int32))) (fun r_8 s_9 => b2 (f_X12_writes r_8.toInt64 s_9) (fun r_11 s_12 => b2 (f_X12_draw (hI s_12 40 0) s_12) (fun r_14 s_15 => iter (f_X12_lessons_s72 x1 x2 x3 r_14) fuel ((1 : Int32), s_15))))
def f_X12_lessons_s36 (x1 : Int32) (v : (Int32 × Int32 × Hp)) : Option ((Int32 × Int32 × Hp) ⊕ (Int32 × Hp)) := f_X12_lessons_t36 x1 v.1 v.2.1 v.2.2
def f_X12_lessons (a1 : Int32) (σ : Hp) : Option (Int32 × Hp) := if (hI σ 40 0) = 0 then b2 (f_X12_no (-5 : Int32) σ) (fun r_34 s_35 => some (r_34, s_35)) else if a1 < (1 : Int32) then f_X12_lessons_b25 σ else if a1 ≤ (9 : Int32) then iter (f_X12_lessons_s36 a1) fuel ((0 : Int32), (0 : Int32), σ) else f_X12_lessons_b25 σ
set_option maxHeartbeats 4000000 in
set_option maxRecDepth 100000 in
theorem c_X12_lessons (l : Launch) (g : tG) (P : Nat → Nat) (σ : Hp) (a1 : Int32) (sz : Nat) {r : Int32} {τ : Hp} (h : f_X12_lessons a1 σ = some (r, τ)) : Met l yX12_lessons (Cond.code yX12_lessons cX12_lessons 8 (some .int) :: tblG) ({ frames := 3, cells := 0, slots := 0, locals := 82 }) (va_Pc [.ref (gL g 40), .int a1] (tPre g P σ sz)) (tQ (some (.int r)) (tPost g P τ (va_A (wC g P σ) sz)) (va_A (wC g P σ) sz)) 0 0 (va_A (wC g P σ) sz) := by
  refine T_start (B := fun A => tPost g P τ A) (by decide) (Nat.le_of_ble_eq_true rfl) ?_
  intro p e s m args below meth c ls0 A hx hb hml hr hown hlocks ht hnm hK hZ hA hB0 hl0
  have hb_25 : ∀ (σ1 : Hp) (H : Heap) (locs : List Loc) (ls : Array Slot), f_X12_lessons_b25 σ1 = some (r, τ) → tB g P σ1 A s.heap H locs → lv_has ls 8 [(0, .ref (gL g 40))] → WQ p l e { frames := 3, cells := 0, slots := 0, locals := 82 } s m args below meth c g P A (some (.int r)) τ H locs (F0 m 25 ls []) := by
    intro σ1 H locs ls h hB hl
    unfold f_X12_lessons_b25 at h
    refine lv_aload_n hx hb dX12_lessons_25 rfl (lv_at hl 0 rfl) ?_
    refine lv_bipush (v := -6) hx hb dX12_lessons_26 (by decide) ?_
    replace h := b2_eq h; obtain ⟨r_3, s_4, hc_5, h⟩ := h
    refine R_call (rest := []) [.int r_3] (R_runV (n := 1) (As := [.int (-6 : Int32)]) ⟨hx, hb, hml, hown, ht⟩ (fun _ h9 => h9) hK hZ hA hB (c_X12_no l g P σ1 (-6 : Int32) H.size hc_5) (R_recv hK hB (by decide) (cell_8 rfl) rfl) tw1042 tw1039 tw1041 pw26 tw5 ⟨by decide, by decide, by decide⟩ rfl rfl ⟨Nat.le_of_ble_eq_true rfl, Nat.le_of_ble_eq_true rfl⟩ rfl hl.1 rfl (Nat.le_of_ble_eq_true rfl) dX12_lessons_28 ⟨Nat.zero_le _, Nat.zero_le _⟩) hB hA rfl (fun H locs hB => ?_)
    obtain ⟨rfl, rfl⟩ := Prod.mk.inj (Option.some.inj h)
    exact W.iret hx hb hr (R_end hB) hB.2.2.2.2 dX12_lessons_31
  have hL_36 : ∀ (x1 : Int32) (n : Nat) (x2 : Int32) (x3 : Int32) (σ1 : Hp) (H : Heap) (locs : List Loc) (ls : Array Slot), iter (f_X12_lessons_s36 x1) n (x2, x3, σ1) = some (r, τ) → tB g P σ1 A s.heap H locs → lv_has ls 8 [(0, .ref (gL g 40)), (1, .int x1), (2, .int x2), (3, .int x3)] → WQ p l e { frames := 3, cells := 0, slots := 0, locals := 82 } s m args below meth c g P A (some (.int r)) τ H locs (F0 m 36 ls []) := by
    intro x1 n
    induction n with
    | zero =>
      intro x2 x3 σ1 H locs ls h hB hl
      exact (iter_0 h).elim
    | succ n ih1 =>
      intro x2 x3 σ1 H locs ls h hB hl
      replace h := iter_eq h; obtain ⟨z1, hh1, hx1⟩ := h
      have hb_168 : ∀ (x2 : Int32) (x3 : Int32) (σ1 : Hp) (H : Heap) (locs : List Loc) (ls : Array Slot), f_X12_lessons_b168 x1 x2 x3 σ1 = some z1 → tB g P σ1 A s.heap H locs → lv_has ls 8 [(0, .ref (gL g 40)), (1, .int x1), (2, .int x2), (3, .int x3)] → WQ p l e { frames := 3, cells := 0, slots := 0, locals := 82 } s m args below meth c g P A (some (.int r)) τ H locs (F0 m 168 ls []) := by
        intro x2 x3 σ1 H locs ls h hB hl
        unfold f_X12_lessons_b168 at h
        refine lv_iinc (v := x3 + 1) (lv' := [(3, .int (x3 + 1)), (0, .ref (gL g 40)), (1, .int x1), (2, .int x2)]) hx hb dX12_lessons_168 hl (k := 3) rfl rfl (by decide) rfl (fun ls hl => ?_)
        refine lv_goto (tgt := 36) hx hb dX12_lessons_171 (by decide) ?_
        obtain rfl := Option.some.inj h
        exact ih1 x2 (x3 + 1) σ1 H locs ls hx1 hB (lv_sub hl [1, 2, 3, 0] rfl)
      have hb_160 : ∀ (x2 : Int32) (x3 : Int32) (x5 : Int32) (σ1 : Hp) (H : Heap) (locs : List Loc) (ls : Array Slot), f_X12_lessons_b160 x1 x2 x3 x5 σ1 = some z1 → tB g P σ1 A s.heap H locs → lv_has ls 8 [(0, .ref (gL g 40)), (1, .int x1), (2, .int x2), (3, .int x3), (5, .int x5)] → WQ p l e { frames := 3, cells := 0, slots := 0, locals := 82 } s m args below meth c g P A (some (.int r)) τ H locs (F0 m 160 ls []) := by
        intro x2 x3 x5 σ1 H locs ls h hB hl
        unfold f_X12_lessons_b160 at h
        refine lv_iload hx hb dX12_lessons_160 (lv_at hl 4 rfl) ?_
        refine lv_if_eq (tgt := 168) hx hb dX12_lessons_162 (by decide) (fun c_18 => ?_) (fun c_18 => ?_)
        · replace h := itp h c_18
          exact hb_168 x2 x3 σ1 H locs ls h hB (lv_sub hl [0, 1, 2, 3] rfl)
        · replace h := itn h c_18
          refine lv_iinc (v := x2 + 1) (lv' := [(2, .int (x2 + 1)), (0, .ref (gL g 40)), (1, .int x1), (3, .int x3), (5, .int x5)]) hx hb dX12_lessons_165 hl (k := 2) rfl rfl (by decide) rfl (fun ls hl => ?_)
          exact hb_168 (x2 + 1) x3 σ1 H locs ls h hB (lv_sub hl [1, 2, 0, 3] rfl)
      have hL_72 : ∀ (x2 : Int32) (x3 : Int32) (x4 : Int32) (n : Nat) (x5 : Int32) (σ1 : Hp) (H : Heap) (locs : List Loc) (ls : Array Slot), iter (f_X12_lessons_s72 x1 x2 x3 x4) n (x5, σ1) = some z1 → tB g P σ1 A s.heap H locs → lv_has ls 8 [(0, .ref (gL g 40)), (1, .int x1), (2, .int x2), (3, .int x3), (4, .int x4), (5, .int x5)] → WQ p l e { frames := 3, cells := 0, slots := 0, locals := 82 } s m args below meth c g P A (some (.int r)) τ H locs (F0 m 72 ls []) := by
        intro x2 x3 x4 n
        induction n with
        | zero =>
          intro x5 σ1 H locs ls h hB hl
          exact (iter_0 h).elim
        | succ n ih2 =>
          intro x5 σ1 H locs ls h hB hl
          replace h := iter_eq h; obtain ⟨z2, hh2, hx2⟩ := h
          have hb_157 : ∀ (x5 : Int32) (σ1 : Hp) (H : Heap) (locs : List Loc) (ls : Array Slot), f_X12_lessons_b157 x1 x2 x3 x4 x5 σ1 = some z2 → tB g P σ1 A s.heap H locs → lv_has ls 8 [(0, .ref (gL g 40)), (1, .int x1), (2, .int x2), (3, .int x3), (4, .int x4), (5, .int x5)] → WQ p l e { frames := 3, cells := 0, slots := 0, locals := 82 } s m args below meth c g P A (some (.int r)) τ H locs (F0 m 157 ls []) := by
            intro x5 σ1 H locs ls h hB hl
            unfold f_X12_lessons_b157 at h
            refine lv_goto (tgt := 72) hx hb dX12_lessons_157 (by decide) ?_
            obtain rfl := Option.some.inj h
            exact ih2 x5 σ1 H locs ls hx2 hB (lv_sub hl [0, 1, 2, 3, 4, 5] rfl)
          have hb_143 : ∀ (x6 : Int64) (xt0 : Int32) (σ1 : Hp) (H : Heap) (locs : List Loc) (ls : Array Slot), f_X12_lessons_b143 x1 x2 x3 x4 x6 xt0 σ1 = some z2 → tB g P σ1 A s.heap H locs → lv_has ls 8 [(0, .ref (gL g 40)), (1, .int x1), (2, .int x2), (3, .int x3), (4, .int x4), (6, .long x6)] → WQ p l e { frames := 3, cells := 0, slots := 0, locals := 82 } s m args below meth c g P A (some (.int r)) τ H locs (F0 m 143 ls [.int xt0]) := by
            intro x6 xt0 σ1 H locs ls h hB hl
            unfold f_X12_lessons_b143 at h
            refine lv_istore (lv' := [(5, .int xt0), (0, .ref (gL g 40)), (1, .int x1), (2, .int x2), (3, .int x3), (4, .int x4), (6, .long x6)]) hx hb dX12_lessons_143 hl (by decide) rfl (fun ls hl => ?_)
            refine lv_iload hx hb dX12_lessons_145 (lv_at hl 0 rfl) ?_
            refine lv_if_eq (tgt := 157) hx hb dX12_lessons_147 (by decide) (fun c_30 => ?_) (fun c_30 => ?_)
            · replace h := itp h c_30
              exact hb_157 xt0 σ1 H locs ls h hB (lv_sub hl [1, 2, 3, 4, 5, 0] rfl)
            · replace h := itn h c_30
              refine lv_aload_n hx hb dX12_lessons_150 rfl (lv_at hl 1 rfl) ?_
              refine lv_lload hx hb dX12_lessons_151 (lv_at hl 6 rfl) ?_
              replace h := b2_eq h; obtain ⟨r_31, s_32, hc_33, h⟩ := h
              refine R_call (rest := []) [.int r_31] (R_runV (n := 1) (As := [.long x6]) ⟨hx, hb, hml, hown, ht⟩ (fun _ h9 => h9) hK hZ hA hB (c_X12_writes l g P σ1 x6 H.size hc_33) (R_recv hK hB (by decide) (cell_8 rfl) rfl) tw1165 tw1162 tw1164 pw44 tw5 ⟨by decide, by decide, by decide⟩ rfl rfl ⟨Nat.le_of_ble_eq_true rfl, Nat.le_of_ble_eq_true rfl⟩ rfl hl.1 rfl (Nat.le_of_ble_eq_true rfl) dX12_lessons_153 ⟨Nat.zero_le _, Nat.zero_le _⟩) hB hA rfl (fun H locs hB => ?_)
              refine lv_pop hx hb dX12_lessons_156 rfl ?_
              exact hb_157 xt0 s_32 H locs ls h hB (lv_sub hl [1, 2, 3, 4, 5, 0] rfl)
          have hb_127 : ∀ (xt0 : Int64) (σ1 : Hp) (H : Heap) (locs : List Loc) (ls : Array Slot), f_X12_lessons_b127 x1 x2 x3 x4 xt0 σ1 = some z2 → tB g P σ1 A s.heap H locs → lv_has ls 8 [(0, .ref (gL g 40)), (1, .int x1), (2, .int x2), (3, .int x3), (4, .int x4)] → WQ p l e { frames := 3, cells := 0, slots := 0, locals := 82 } s m args below meth c g P A (some (.int r)) τ H locs (F0 m 127 ls [.long xt0]) := by
            intro xt0 σ1 H locs ls h hB hl
            unfold f_X12_lessons_b127 at h
            refine lv_lstore (lv' := [(6, .long xt0), (0, .ref (gL g 40)), (1, .int x1), (2, .int x2), (3, .int x3), (4, .int x4)]) hx hb dX12_lessons_127 hl (by decide) rfl (fun ls hl => ?_)
            refine lv_lload hx hb dX12_lessons_129 (lv_at hl 0 rfl) ?_
            refine lv_ldc2 (v := -1) hx hb hown (ht _ tw1089) dX12_lessons_131 ?_
            refine W.lcmp hx hb dX12_lessons_134 ?_
            refine lv_if_eq (tgt := 142) hx hb dX12_lessons_135 (by decide) (fun c_29 => ?_) (fun c_29 => ?_)
            · replace h := itp h c_29
              refine lv_iconst (v := 0) hx hb dX12_lessons_142 (by decide) ?_
              exact hb_143 xt0 (0 : Int32) σ1 H locs ls h hB (lv_sub hl [1, 2, 3, 4, 5, 0] rfl)
            · replace h := itn h c_29
              refine lv_iconst (v := 1) hx hb dX12_lessons_138 (by decide) ?_
              refine lv_goto (tgt := 143) hx hb dX12_lessons_139 (by decide) ?_
              exact hb_143 xt0 (1 : Int32) σ1 H locs ls h hB (lv_sub hl [1, 2, 3, 4, 5, 0] rfl)
          have h : f_X12_lessons_t72 x1 x2 x3 x4 x5 σ1 = some z2 := hh2
          clear hh2
          unfold f_X12_lessons_t72 at h
          refine lv_iload hx hb dX12_lessons_72 (lv_at hl 5 rfl) ?_
          refine lv_if_eq (tgt := 160) hx hb dX12_lessons_74 (by decide) (fun c_17 => ?_) (fun c_17 => ?_)
          · replace h := itp h c_17
            replace h := ex_eq h; obtain ⟨b2, h, hz2⟩ := h
            subst hz2
            have hz2 := (itk_inr hx2).symm
            subst hz2
            exact hb_160 x2 x3 x5 σ1 H locs ls h hB (lv_sub hl [0, 1, 2, 3, 5] rfl)
          · replace h := itn h c_17
            refine lv_aload_n hx hb dX12_lessons_77 rfl (lv_at hl 0 rfl) ?_
            refine lv_aload_n hx hb dX12_lessons_78 rfl (lv_at hl 0 rfl) ?_
            refine R_get (v := .ref (gL g 49)) hx hb ht ui_X12 hown hK hB (by decide) (cell_8 rfl) rfl 9 (by decide) (ht _ tw925) (fun _ h9 => h9) rfl dX12_lessons_79 ?_
            refine lv_aload_n hx hb dX12_lessons_82 rfl (lv_at hl 0 rfl) ?_
            refine R_get (v := .int (hI σ1 40 1)) hx hb ht ui_X12 hown hK hB (by decide) (cell_8 rfl) rfl 1 (by decide) (ht _ tw917) (fun _ h9 => h9) rfl dX12_lessons_83 ?_
            refine lv_iconst (v := 1) hx hb dX12_lessons_86 (by decide) ?_
            refine lv_isub hx hb dX12_lessons_87 ?_
            replace h := ck_eq h; obtain ⟨q_19, h⟩ := h
            refine R_lald hx hb hK hB rfl (inb_eq q_19) dX12_lessons_88 ?_
            replace h := b2_eq h; obtain ⟨r_20, s_21, hc_22, h⟩ := h
            refine R_call (rest := []) [.int r_20] (R_runV (n := 1) (As := [.long (hJ σ1 49 ((hI σ1 40 1) - (1 : Int32)).toNatClampNeg)]) ⟨hx, hb, hml, hown, ht⟩ (fun _ h9 => h9) hK hZ hA hB (c_X12_isAlike l g P σ1 (hJ σ1 49 ((hI σ1 40 1) - (1 : Int32)).toNatClampNeg) H.size hc_22) (R_recv hK hB (by decide) (cell_8 rfl) rfl) tw1185 tw1182 tw1184 pw46 tw5 ⟨by decide, by decide, by decide⟩ rfl rfl ⟨Nat.le_of_ble_eq_true rfl, Nat.le_of_ble_eq_true rfl⟩ rfl hl.1 rfl (Nat.le_of_ble_eq_true rfl) dX12_lessons_89 ⟨Nat.zero_le _, Nat.zero_le _⟩) hB hA rfl (fun H locs hB => ?_)
            refine lv_if_ne (tgt := 160) hx hb dX12_lessons_92 (by decide) (fun c_23 => ?_) (fun c_23 => ?_)
            · replace h := itn h c_23
              replace h := ex_eq h; obtain ⟨b2, h, hz2⟩ := h
              subst hz2
              have hz2 := (itk_inr hx2).symm
              subst hz2
              exact hb_160 x2 x3 x5 s_21 H locs ls h hB (lv_sub hl [0, 1, 2, 3, 5] rfl)
            · replace h := itp h c_23
              refine lv_aload_n hx hb dX12_lessons_95 rfl (lv_at hl 0 rfl) ?_
              refine R_get (v := .int (hI s_21 40 1)) hx hb ht ui_X12 hown hK hB (by decide) (cell_8 rfl) rfl 1 (by decide) (ht _ tw917) (fun _ h9 => h9) rfl dX12_lessons_96 ?_
              refine lv_bipush (v := 20) hx hb dX12_lessons_99 (by decide) ?_
              refine lv_icmp_ne (tgt := 110) hx hb dX12_lessons_101 (by decide) (fun c_24 => ?_) (fun c_24 => ?_)
              · replace h := itn h c_24
                refine lv_aload_n hx hb dX12_lessons_110 rfl (lv_at hl 0 rfl) ?_
                refine lv_iload hx hb dX12_lessons_111 (lv_at hl 4 rfl) ?_
                refine lv_aload_n hx hb dX12_lessons_113 rfl (lv_at hl 0 rfl) ?_
                refine R_get (v := .ref (gL g 49)) hx hb ht ui_X12 hown hK hB (by decide) (cell_8 rfl) rfl 9 (by decide) (ht _ tw925) (fun _ h9 => h9) rfl dX12_lessons_114 ?_
                refine lv_aload_n hx hb dX12_lessons_117 rfl (lv_at hl 0 rfl) ?_
                refine R_get (v := .int (hI s_21 40 1)) hx hb ht ui_X12 hown hK hB (by decide) (cell_8 rfl) rfl 1 (by decide) (ht _ tw917) (fun _ h9 => h9) rfl dX12_lessons_118 ?_
                refine lv_iconst (v := 1) hx hb dX12_lessons_121 (by decide) ?_
                refine lv_isub hx hb dX12_lessons_122 ?_
                replace h := ck_eq h; obtain ⟨q_25, h⟩ := h
                refine R_lald hx hb hK hB rfl (inb_eq q_25) dX12_lessons_123 ?_
                replace h := b2_eq h; obtain ⟨r_26, s_27, hc_28, h⟩ := h
                refine R_call (rest := []) [.long r_26] (R_runV (n := 2) (As := [.int x4, .long (hJ s_21 49 ((hI s_21 40 1) - (1 : Int32)).toNatClampNeg)]) ⟨hx, hb, hml, hown, ht⟩ (fun _ h9 => h9) hK hZ hA hB (c_X12_nextOf l g P s_21 x4 (hJ s_21 49 ((hI s_21 40 1) - (1 : Int32)).toNatClampNeg) H.size hc_28) (R_recv hK hB (by decide) (cell_8 rfl) rfl) tw1075 tw1072 tw1074 pw28 tw5 ⟨by decide, by decide, by decide⟩ rfl rfl ⟨Nat.le_of_ble_eq_true rfl, Nat.le_of_ble_eq_true rfl⟩ rfl hl.1 rfl (Nat.le_of_ble_eq_true rfl) dX12_lessons_124 ⟨Nat.zero_le _, Nat.zero_le _⟩) hB hA rfl (fun H locs hB => ?_)
                exact hb_127 r_26 s_27 H locs ls h hB (lv_sub hl [0, 1, 2, 3, 4] rfl)
              · replace h := itp h c_24
                refine lv_ldc2 (v := -1) hx hb hown (ht _ tw1089) dX12_lessons_104 ?_
                refine lv_goto (tgt := 127) hx hb dX12_lessons_107 (by decide) ?_
                exact hb_127 (-1 : Int64) s_21 H locs ls h hB (lv_sub hl [0, 1, 2, 3, 4] rfl)
      have h : f_X12_lessons_t36 x1 x2 x3 σ1 = some z1 := hh1
      clear hh1
      unfold f_X12_lessons_t36 at h
      refine lv_iload_n hx hb dX12_lessons_36 rfl (lv_at hl 3 rfl) ?_
      refine lv_iload_n hx hb dX12_lessons_37 rfl (lv_at hl 1 rfl) ?_
      refine lv_icmp_ge (tgt := 174) hx hb dX12_lessons_38 (by decide) (fun c_7 => ?_) (fun c_7 => ?_)
      · replace h := itp h c_7
        replace h := ex_eq h; obtain ⟨b1, h, hz1⟩ := h
        subst hz1
        have hz1 := (itk_inr hx1).symm
        subst hz1
        refine lv_iload_n hx hb dX12_lessons_174 rfl (lv_at hl 2 rfl) ?_
        obtain ⟨rfl, rfl⟩ := Prod.mk.inj (Option.some.inj h)
        exact W.iret hx hb hr (R_end hB) hB.2.2.2.2 dX12_lessons_175
      · replace h := itn h c_7
        refine lv_aload_n hx hb dX12_lessons_41 rfl (lv_at hl 0 rfl) ?_
        refine lv_iconst (v := 0) hx hb dX12_lessons_42 (by decide) ?_
        refine R_putI (v := (0 : Int32)) (ty := .int) hx hb ht ui_X12 tyX12 tyX12_ok nmX12 hown hK hB (by decide) (cell_8 rfl) rfl 1 (by decide) (ht _ tw917) (fun _ h9 => h9) rfl (by decide +kernel) rfl rfl (Nat.le_of_ble_eq_true rfl) (st8_1 rfl) dX12_lessons_43 (fun H locs hB => ?_)
        refine lv_aload_n hx hb dX12_lessons_46 rfl (lv_at hl 0 rfl) ?_
        refine lv_aload_n hx hb dX12_lessons_47 rfl (lv_at hl 0 rfl) ?_
        refine lv_sipush (v := 1000) hx hb dX12_lessons_48 (by decide) ?_
        replace h := b2_eq h; obtain ⟨r_8, s_9, hc_10, h⟩ := h
        refine R_call (rest := [.ref (gL g 40)]) [.int r_8, .ref (gL g 40)] (R_runV (n := 1) (As := [.int (1000 : Int32)]) ⟨hx, hb, hml, hown, ht⟩ (fun _ h9 => h9) hK hZ hA hB (c_X12_draw l g P (sI σ1 40 1 (0 : Int32)) (1000 : Int32) H.size hc_10) (R_recv hK hB (by decide) (cell_8 rfl) rfl) tw1314 tw1311 tw1313 pw55 tw5 ⟨by decide, by decide, by decide⟩ rfl rfl ⟨Nat.le_of_ble_eq_true rfl, Nat.le_of_ble_eq_true rfl⟩ rfl hl.1 rfl (Nat.le_of_ble_eq_true rfl) dX12_lessons_51 ⟨Nat.zero_le _, Nat.zero_le _⟩) hB hA rfl (fun H locs hB => ?_)
        refine lv_i2l (v := r_8.toInt64) hx hb dX12_lessons_54 rfl ?_
        replace h := b2_eq h; obtain ⟨r_11, s_12, hc_13, h⟩ := h
        refine R_call (rest := []) [.int r_11] (R_runV (n := 1) (As := [.long r_8.toInt64]) ⟨hx, hb, hml, hown, ht⟩ (fun _ h9 => h9) hK hZ hA hB (c_X12_writes l g P s_9 r_8.toInt64 H.size hc_13) (R_recv hK hB (by decide) (cell_8 rfl) rfl) tw1165 tw1162 tw1164 pw44 tw5 ⟨by decide, by decide, by decide⟩ rfl rfl ⟨Nat.le_of_ble_eq_true rfl, Nat.le_of_ble_eq_true rfl⟩ rfl hl.1 rfl (Nat.le_of_ble_eq_true rfl) dX12_lessons_55 ⟨Nat.zero_le _, Nat.zero_le _⟩) hB hA rfl (fun H locs hB => ?_)
        refine lv_pop hx hb dX12_lessons_58 rfl ?_
        refine lv_aload_n hx hb dX12_lessons_59 rfl (lv_at hl 0 rfl) ?_
        refine lv_aload_n hx hb dX12_lessons_60 rfl (lv_at hl 0 rfl) ?_
        refine R_get (v := .int (hI s_12 40 0)) hx hb ht ui_X12 hown hK hB (by decide) (cell_8 rfl) rfl 0 (by decide) (ht _ tw916) (fun _ h9 => h9) rfl dX12_lessons_61 ?_
        replace h := b2_eq h; obtain ⟨r_14, s_15, hc_16, h⟩ := h
        refine R_call (rest := []) [.int r_14] (R_runV (n := 1) (As := [.int (hI s_12 40 0)]) ⟨hx, hb, hml, hown, ht⟩ (fun _ h9 => h9) hK hZ hA hB (c_X12_draw l g P s_12 (hI s_12 40 0) H.size hc_16) (R_recv hK hB (by decide) (cell_8 rfl) rfl) tw1314 tw1311 tw1313 pw55 tw5 ⟨by decide, by decide, by decide⟩ rfl rfl ⟨Nat.le_of_ble_eq_true rfl, Nat.le_of_ble_eq_true rfl⟩ rfl hl.1 rfl (Nat.le_of_ble_eq_true rfl) dX12_lessons_64 ⟨Nat.zero_le _, Nat.zero_le _⟩) hB hA rfl (fun H locs hB => ?_)
        refine lv_istore (lv' := [(4, .int r_14), (0, .ref (gL g 40)), (1, .int x1), (2, .int x2), (3, .int x3)]) hx hb dX12_lessons_67 hl (by decide) rfl (fun ls hl => ?_)
        refine lv_iconst (v := 1) hx hb dX12_lessons_69 (by decide) ?_
        refine lv_istore (lv' := [(5, .int (1 : Int32)), (4, .int r_14), (0, .ref (gL g 40)), (1, .int x1), (2, .int x2), (3, .int x3)]) hx hb dX12_lessons_70 hl (by decide) rfl (fun ls hl => ?_)
        exact hL_72 x2 x3 r_14 fuel (1 : Int32) s_15 H locs ls h hB (lv_sub hl [2, 3, 4, 5, 1, 0] rfl)
  suffices hmain : ∀ (H : Heap) (locs : List Loc) (ls : Array Slot), tB g P σ A s.heap H locs → lv_has ls 8 [(0, .ref (gL g 40)), (1, .int a1)] → WQ p l e { frames := 3, cells := 0, slots := 0, locals := 82 } s m args below meth c g P A (some (.int r)) τ H locs (F0 m 0 ls []) from hmain _ _ ls0 hB0 hl0
  intro H locs ls hB hl
  unfold f_X12_lessons at h
  refine lv_aload_n hx hb dX12_lessons_0 rfl (lv_at hl 0 rfl) ?_
  refine R_get (v := .int (hI σ 40 0)) hx hb ht ui_X12 hown hK hB (by decide) (cell_8 rfl) rfl 0 (by decide) (ht _ tw916) (fun _ h9 => h9) rfl dX12_lessons_1 ?_
  refine lv_if_ne (tgt := 14) hx hb dX12_lessons_4 (by decide) (fun c_1 => ?_) (fun c_1 => ?_)
  · replace h := itn h c_1
    refine lv_iload_n hx hb dX12_lessons_14 rfl (lv_at hl 1 rfl) ?_
    refine lv_iconst (v := 1) hx hb dX12_lessons_15 (by decide) ?_
    refine lv_icmp_lt (tgt := 25) hx hb dX12_lessons_16 (by decide) (fun c_2 => ?_) (fun c_2 => ?_)
    · replace h := itp h c_2
      exact hb_25 σ H locs ls h hB (lv_sub hl [0] rfl)
    · replace h := itn h c_2
      refine lv_iload_n hx hb dX12_lessons_19 rfl (lv_at hl 1 rfl) ?_
      refine lv_bipush (v := 9) hx hb dX12_lessons_20 (by decide) ?_
      refine lv_icmp_le (tgt := 32) hx hb dX12_lessons_22 (by decide) (fun c_6 => ?_) (fun c_6 => ?_)
      · replace h := itp h c_6
        refine lv_iconst (v := 0) hx hb dX12_lessons_32 (by decide) ?_
        refine lv_istore_n (lv' := [(2, .int (0 : Int32)), (0, .ref (gL g 40)), (1, .int a1)]) hx hb dX12_lessons_33 rfl hl (by decide) rfl (fun ls hl => ?_)
        refine lv_iconst (v := 0) hx hb dX12_lessons_34 (by decide) ?_
        refine lv_istore_n (lv' := [(3, .int (0 : Int32)), (2, .int (0 : Int32)), (0, .ref (gL g 40)), (1, .int a1)]) hx hb dX12_lessons_35 rfl hl (by decide) rfl (fun ls hl => ?_)
        exact hL_36 a1 fuel (0 : Int32) (0 : Int32) σ H locs ls h hB (lv_sub hl [2, 3, 1, 0] rfl)
      · replace h := itn h c_6
        exact hb_25 σ H locs ls h hB (lv_sub hl [0] rfl)
  · replace h := itp h c_1
    refine lv_aload_n hx hb dX12_lessons_7 rfl (lv_at hl 0 rfl) ?_
    refine lv_bipush (v := -5) hx hb dX12_lessons_8 (by decide) ?_
    replace h := b2_eq h; obtain ⟨r_34, s_35, hc_36, h⟩ := h
    refine R_call (rest := []) [.int r_34] (R_runV (n := 1) (As := [.int (-5 : Int32)]) ⟨hx, hb, hml, hown, ht⟩ (fun _ h9 => h9) hK hZ hA hB (c_X12_no l g P σ (-5 : Int32) H.size hc_36) (R_recv hK hB (by decide) (cell_8 rfl) rfl) tw1042 tw1039 tw1041 pw26 tw5 ⟨by decide, by decide, by decide⟩ rfl rfl ⟨Nat.le_of_ble_eq_true rfl, Nat.le_of_ble_eq_true rfl⟩ rfl hl.1 rfl (Nat.le_of_ble_eq_true rfl) dX12_lessons_10 ⟨Nat.zero_le _, Nat.zero_le _⟩) hB hA rfl (fun H locs hB => ?_)
    obtain ⟨rfl, rfl⟩ := Prod.mk.inj (Option.some.inj h)
    exact W.iret hx hb hr (R_end hB) hB.2.2.2.2 dX12_lessons_13
def f_X12_seed (a1 : Int32) (σ : Hp) : Option (Int32 × Hp) := some ((hI σ 40 3), (sI σ 40 3 a1))
set_option maxHeartbeats 4000000 in
set_option maxRecDepth 100000 in
theorem c_X12_seed (l : Launch) (g : tG) (P : Nat → Nat) (σ : Hp) (a1 : Int32) (sz : Nat) {r : Int32} {τ : Hp} (h : f_X12_seed a1 σ = some (r, τ)) : Met l yX12_seed (Cond.code yX12_seed cX12_seed 3 (some .int) :: tblG) ({ frames := 0, cells := 0, slots := 0, locals := 0 }) (va_Pc [.ref (gL g 40), .int a1] (tPre g P σ sz)) (tQ (some (.int r)) (tPost g P τ (va_A (wC g P σ) sz)) (va_A (wC g P σ) sz)) 0 0 (va_A (wC g P σ) sz) := by
  refine T_start (B := fun A => tPost g P τ A) (by decide) (Nat.le_of_ble_eq_true rfl) ?_
  intro p e s m args below meth c ls0 A hx hb hml hr hown hlocks ht hnm hK hZ hA hB0 hl0
  suffices hmain : ∀ (H : Heap) (locs : List Loc) (ls : Array Slot), tB g P σ A s.heap H locs → lv_has ls 3 [(0, .ref (gL g 40)), (1, .int a1)] → WQ p l e { frames := 0, cells := 0, slots := 0, locals := 0 } s m args below meth c g P A (some (.int r)) τ H locs (F0 m 0 ls []) from hmain _ _ ls0 hB0 hl0
  intro H locs ls hB hl
  unfold f_X12_seed at h
  refine lv_aload_n hx hb dX12_seed_0 rfl (lv_at hl 0 rfl) ?_
  refine R_get (v := .int (hI σ 40 3)) hx hb ht ui_X12 hown hK hB (by decide) (cell_8 rfl) rfl 3 (by decide) (ht _ tw919) (fun _ h9 => h9) rfl dX12_seed_1 ?_
  refine lv_istore_n (lv' := [(2, .int (hI σ 40 3)), (0, .ref (gL g 40)), (1, .int a1)]) hx hb dX12_seed_4 rfl hl (by decide) rfl (fun ls hl => ?_)
  refine lv_aload_n hx hb dX12_seed_5 rfl (lv_at hl 1 rfl) ?_
  refine lv_iload_n hx hb dX12_seed_6 rfl (lv_at hl 2 rfl) ?_
  refine R_putI (v := a1) (ty := .int) hx hb ht ui_X12 tyX12 tyX12_ok nmX12 hown hK hB (by decide) (cell_8 rfl) rfl 3 (by decide) (ht _ tw919) (fun _ h9 => h9) rfl (by decide +kernel) rfl rfl (Nat.le_of_ble_eq_true rfl) (st8_3 rfl) dX12_seed_7 (fun H locs hB => ?_)
  refine lv_iload_n hx hb dX12_seed_10 rfl (lv_at hl 0 rfl) ?_
  obtain ⟨rfl, rfl⟩ := Prod.mk.inj (Option.some.inj h)
  exact W.iret hx hb hr (R_end hB) hB.2.2.2.2 dX12_seed_11
def f_X12_body_b19 (σ1 : Hp) : Option (Unit × Hp) := some ((), (sI σ1 40 36 ((hI σ1 40 36) + (1 : Int32))))
def f_X12_body (a1 : Int32) (σ : Hp) : Option (Unit × Hp) := if (20 : Int32) ≤ (hI σ 40 36) then f_X12_body_b19 σ else ck (inb (hI σ 40 36) 20 = true) (f_X12_body_b19 (sI σ 75 (hI σ 40 36).toNatClampNeg a1))
set_option maxHeartbeats 4000000 in
set_option maxRecDepth 100000 in
theorem c_X12_body (l : Launch) (g : tG) (P : Nat → Nat) (σ : Hp) (a1 : Int32) (sz : Nat) {r : Unit} {τ : Hp} (h : f_X12_body a1 σ = some (r, τ)) : Met l yX12_body (Cond.code yX12_body cX12_body 2 none :: tblG) ({ frames := 0, cells := 0, slots := 0, locals := 0 }) (va_Pc [.ref (gL g 40), .int a1] (tPre g P σ sz)) (tQ none (tPost g P τ (va_A (wC g P σ) sz)) (va_A (wC g P σ) sz)) 0 0 (va_A (wC g P σ) sz) := by
  refine T_start (B := fun A => tPost g P τ A) (by decide) (Nat.le_of_ble_eq_true rfl) ?_
  intro p e s m args below meth c ls0 A hx hb hml hr hown hlocks ht hnm hK hZ hA hB0 hl0
  have hb_19 : ∀ (σ1 : Hp) (H : Heap) (locs : List Loc) (ls : Array Slot), f_X12_body_b19 σ1 = some (r, τ) → tB g P σ1 A s.heap H locs → lv_has ls 2 [(0, .ref (gL g 40))] → WQ p l e { frames := 0, cells := 0, slots := 0, locals := 0 } s m args below meth c g P A none τ H locs (F0 m 19 ls []) := by
    intro σ1 H locs ls h hB hl
    unfold f_X12_body_b19 at h
    refine lv_aload_n hx hb dX12_body_19 rfl (lv_at hl 0 rfl) ?_
    refine lv_dup hx hb dX12_body_20 rfl ?_
    refine R_get (v := .int (hI σ1 40 36)) hx hb ht ui_X12 hown hK hB (by decide) (cell_8 rfl) rfl 36 (by decide) (ht _ tw952) (fun _ h9 => h9) rfl dX12_body_21 ?_
    refine lv_iconst (v := 1) hx hb dX12_body_24 (by decide) ?_
    refine lv_iadd hx hb dX12_body_25 ?_
    refine R_putI (v := ((hI σ1 40 36) + (1 : Int32))) (ty := .int) hx hb ht ui_X12 tyX12 tyX12_ok nmX12 hown hK hB (by decide) (cell_8 rfl) rfl 36 (by decide) (ht _ tw952) (fun _ h9 => h9) rfl (by decide +kernel) rfl rfl (Nat.le_of_ble_eq_true rfl) (st8_36 rfl) dX12_body_26 (fun H locs hB => ?_)
    obtain ⟨rfl, rfl⟩ := Prod.mk.inj (Option.some.inj h)
    exact W.vret hx hb hr (R_end hB) hB.2.2.2.2 dX12_body_29
  suffices hmain : ∀ (H : Heap) (locs : List Loc) (ls : Array Slot), tB g P σ A s.heap H locs → lv_has ls 2 [(0, .ref (gL g 40)), (1, .int a1)] → WQ p l e { frames := 0, cells := 0, slots := 0, locals := 0 } s m args below meth c g P A none τ H locs (F0 m 0 ls []) from hmain _ _ ls0 hB0 hl0
  intro H locs ls hB hl
  unfold f_X12_body at h
  refine lv_aload_n hx hb dX12_body_0 rfl (lv_at hl 0 rfl) ?_
  refine R_get (v := .int (hI σ 40 36)) hx hb ht ui_X12 hown hK hB (by decide) (cell_8 rfl) rfl 36 (by decide) (ht _ tw952) (fun _ h9 => h9) rfl dX12_body_1 ?_
  refine lv_bipush (v := 20) hx hb dX12_body_4 (by decide) ?_
  refine lv_icmp_ge (tgt := 19) hx hb dX12_body_6 (by decide) (fun c_1 => ?_) (fun c_1 => ?_)
  · replace h := itp h c_1
    exact hb_19 σ H locs ls h hB (lv_sub hl [0] rfl)
  · replace h := itn h c_1
    refine lv_aload_n hx hb dX12_body_9 rfl (lv_at hl 0 rfl) ?_
    refine R_get (v := .ref (gL g 75)) hx hb ht ui_X12 hown hK hB (by decide) (cell_8 rfl) rfl 35 (by decide) (ht _ tw951) (fun _ h9 => h9) rfl dX12_body_10 ?_
    refine lv_aload_n hx hb dX12_body_13 rfl (lv_at hl 0 rfl) ?_
    refine R_get (v := .int (hI σ 40 36)) hx hb ht ui_X12 hown hK hB (by decide) (cell_8 rfl) rfl 36 (by decide) (ht _ tw952) (fun _ h9 => h9) rfl dX12_body_14 ?_
    refine lv_iload_n hx hb dX12_body_17 rfl (lv_at hl 1 rfl) ?_
    replace h := ck_eq h; obtain ⟨q_2, h⟩ := h
    refine R_iast hx hb hK hB rfl (inb_eq q_2) dX12_body_18 (fun H locs hB => ?_)
    exact hb_19 (sI σ 75 (hI σ 40 36).toNatClampNeg a1) H locs ls h hB (lv_sub hl [0] rfl)
def f_X12_turning_b89 (x3 : Int32) (x4 : Int32) (σ1 : Hp) : Option (Int32 × Hp) := if x3 = (6 : Int32) then some ((x4 * (2 : Int32)), σ1) else some (x4, σ1)
def f_X12_turning_b78 (x1 : Int32) (x3 : Int32) (x4 : Int32) (σ1 : Hp) : Option (Int32 × Hp) := if x3 = (4 : Int32) then f_X12_turning_b89 x3 (x4 - x1) σ1 else f_X12_turning_b89 x3 x4 σ1
def f_X12_turning_b67 (x1 : Int32) (x3 : Int32) (x4 : Int32) (σ1 : Hp) : Option (Int32 × Hp) := ck (inb x1 6 = true) (f_X12_turning_b78 x1 x3 (x4 + (hI σ1 47 x1.toNatClampNeg)) σ1)
def f_X12_turning_b46 (x1 : Int32) (x2 : Int32) (x3 : Int32) (σ1 : Hp) : Option (Int32 × Hp) := b2 (f_X12_body (10 : Int32) σ1) (fun r_8 s_9 => if x3 = (1 : Int32) then f_X12_turning_b67 x1 x3 (x2 + x1) s_9 else if x3 = (3 : Int32) then f_X12_turning_b67 x1 x3 (x2 + x1) s_9 else f_X12_turning_b78 x1 x3 (x2 + x1) s_9)
def f_X12_turning_b40 (x1 : Int32) (x2 : Int32) (x3 : Int32) (σ1 : Hp) : Option (Int32 × Hp) := b2 (f_X12_body (20 : Int32) σ1) (fun r_5 s_6 => f_X12_turning_b46 x1 x2 x3 s_6)
def f_X12_turning_b30 (x1 : Int32) (x2 : Int32) (x3 : Int32) (σ1 : Hp) : Option (Int32 × Hp) := if x3 = (1 : Int32) then f_X12_turning_b40 x1 x2 x3 σ1 else if x3 = (3 : Int32) then f_X12_turning_b40 x1 x2 x3 σ1 else f_X12_turning_b46 x1 x2 x3 σ1
def f_X12_turning_b19 (x1 : Int32) (x2 : Int32) (x3 : Int32) (σ1 : Hp) : Option (Int32 × Hp) := if x3 = (4 : Int32) then b2 (f_X12_body (51 : Int32) σ1) (fun r_17 s_18 => f_X12_turning_b30 x1 x2 x3 s_18) else f_X12_turning_b30 x1 x2 x3 σ1
def f_X12_turning (a1 : Int32) (a2 : Int32) (σ : Hp) : Option (Int32 × Hp) := ck (inb a1 6 = true) (if (hI σ 46 a1.toNatClampNeg) = (6 : Int32) then b2 (f_X12_body (70 : Int32) σ) (fun r_20 s_21 => f_X12_turning_b19 a1 a2 (hI σ 46 a1.toNatClampNeg) s_21) else f_X12_turning_b19 a1 a2 (hI σ 46 a1.toNatClampNeg) σ)
set_option maxHeartbeats 4000000 in
set_option maxRecDepth 100000 in
theorem c_X12_turning (l : Launch) (g : tG) (P : Nat → Nat) (σ : Hp) (a1 : Int32) (a2 : Int32) (sz : Nat) {r : Int32} {τ : Hp} (h : f_X12_turning a1 a2 σ = some (r, τ)) : Met l yX12_turning (Cond.code yX12_turning cX12_turning 5 (some .int) :: tblG) ({ frames := 1, cells := 0, slots := 0, locals := 21 }) (va_Pc [.ref (gL g 40), .int a1, .int a2] (tPre g P σ sz)) (tQ (some (.int r)) (tPost g P τ (va_A (wC g P σ) sz)) (va_A (wC g P σ) sz)) 0 0 (va_A (wC g P σ) sz) := by
  refine T_start (B := fun A => tPost g P τ A) (by decide) (Nat.le_of_ble_eq_true rfl) ?_
  intro p e s m args below meth c ls0 A hx hb hml hr hown hlocks ht hnm hK hZ hA hB0 hl0
  have hb_89 : ∀ (x3 : Int32) (x4 : Int32) (σ1 : Hp) (H : Heap) (locs : List Loc) (ls : Array Slot), f_X12_turning_b89 x3 x4 σ1 = some (r, τ) → tB g P σ1 A s.heap H locs → lv_has ls 5 [(3, .int x3), (4, .int x4)] → WQ p l e { frames := 1, cells := 0, slots := 0, locals := 21 } s m args below meth c g P A (some (.int r)) τ H locs (F0 m 89 ls []) := by
    intro x3 x4 σ1 H locs ls h hB hl
    unfold f_X12_turning_b89 at h
    refine lv_iload_n hx hb dX12_turning_89 rfl (lv_at hl 0 rfl) ?_
    refine lv_bipush (v := 6) hx hb dX12_turning_90 (by decide) ?_
    refine lv_icmp_ne (tgt := 102) hx hb dX12_turning_92 (by decide) (fun c_14 => ?_) (fun c_14 => ?_)
    · replace h := itn h c_14
      refine lv_iload hx hb dX12_turning_102 (lv_at hl 1 rfl) ?_
      obtain ⟨rfl, rfl⟩ := Prod.mk.inj (Option.some.inj h)
      exact W.iret hx hb hr (R_end hB) hB.2.2.2.2 dX12_turning_104
    · replace h := itp h c_14
      refine lv_iload hx hb dX12_turning_95 (lv_at hl 1 rfl) ?_
      refine lv_iconst (v := 2) hx hb dX12_turning_97 (by decide) ?_
      refine lv_imul hx hb dX12_turning_98 ?_
      refine lv_goto (tgt := 104) hx hb dX12_turning_99 (by decide) ?_
      obtain ⟨rfl, rfl⟩ := Prod.mk.inj (Option.some.inj h)
      exact W.iret hx hb hr (R_end hB) hB.2.2.2.2 dX12_turning_104
  have hb_78 : ∀ (x1 : Int32) (x3 : Int32) (x4 : Int32) (σ1 : Hp) (H : Heap) (locs : List Loc) (ls : Array Slot), f_X12_turning_b78 x1 x3 x4 σ1 = some (r, τ) → tB g P σ1 A s.heap H locs → lv_has ls 5 [(1, .int x1), (3, .int x3), (4, .int x4)] → WQ p l e { frames := 1, cells := 0, slots := 0, locals := 21 } s m args below meth c g P A (some (.int r)) τ H locs (F0 m 78 ls []) := by
    intro x1 x3 x4 σ1 H locs ls h hB hl
    unfold f_X12_turning_b78 at h
    refine lv_iload_n hx hb dX12_turning_78 rfl (lv_at hl 1 rfl) ?_
    refine lv_iconst (v := 4) hx hb dX12_turning_79 (by decide) ?_
    refine lv_icmp_ne (tgt := 89) hx hb dX12_turning_80 (by decide) (fun c_13 => ?_) (fun c_13 => ?_)
    · replace h := itn h c_13
      exact hb_89 x3 x4 σ1 H locs ls h hB (lv_sub hl [1, 2] rfl)
    · replace h := itp h c_13
      refine lv_iload hx hb dX12_turning_83 (lv_at hl 2 rfl) ?_
      refine lv_iload_n hx hb dX12_turning_85 rfl (lv_at hl 0 rfl) ?_
      refine lv_isub hx hb dX12_turning_86 ?_
      refine lv_istore (lv' := [(4, .int (x4 - x1)), (1, .int x1), (3, .int x3)]) hx hb dX12_turning_87 hl (by decide) rfl (fun ls hl => ?_)
      exact hb_89 x3 (x4 - x1) σ1 H locs ls h hB (lv_sub hl [2, 0] rfl)
  have hb_67 : ∀ (x1 : Int32) (x3 : Int32) (x4 : Int32) (σ1 : Hp) (H : Heap) (locs : List Loc) (ls : Array Slot), f_X12_turning_b67 x1 x3 x4 σ1 = some (r, τ) → tB g P σ1 A s.heap H locs → lv_has ls 5 [(0, .ref (gL g 40)), (1, .int x1), (3, .int x3), (4, .int x4)] → WQ p l e { frames := 1, cells := 0, slots := 0, locals := 21 } s m args below meth c g P A (some (.int r)) τ H locs (F0 m 67 ls []) := by
    intro x1 x3 x4 σ1 H locs ls h hB hl
    unfold f_X12_turning_b67 at h
    refine lv_iload hx hb dX12_turning_67 (lv_at hl 3 rfl) ?_
    refine lv_aload_n hx hb dX12_turning_69 rfl (lv_at hl 0 rfl) ?_
    refine R_get (v := .ref (gL g 47)) hx hb ht ui_X12 hown hK hB (by decide) (cell_8 rfl) rfl 7 (by decide) (ht _ tw923) (fun _ h9 => h9) rfl dX12_turning_70 ?_
    refine lv_iload_n hx hb dX12_turning_73 rfl (lv_at hl 1 rfl) ?_
    replace h := ck_eq h; obtain ⟨q_12, h⟩ := h
    refine R_iald hx hb hK hB rfl (inb_eq q_12) dX12_turning_74 ?_
    refine lv_iadd hx hb dX12_turning_75 ?_
    refine lv_istore (lv' := [(4, .int (x4 + (hI σ1 47 x1.toNatClampNeg))), (0, .ref (gL g 40)), (1, .int x1), (3, .int x3)]) hx hb dX12_turning_76 hl (by decide) rfl (fun ls hl => ?_)
    exact hb_78 x1 x3 (x4 + (hI σ1 47 x1.toNatClampNeg)) σ1 H locs ls h hB (lv_sub hl [2, 3, 0] rfl)
  have hb_46 : ∀ (x1 : Int32) (x2 : Int32) (x3 : Int32) (σ1 : Hp) (H : Heap) (locs : List Loc) (ls : Array Slot), f_X12_turning_b46 x1 x2 x3 σ1 = some (r, τ) → tB g P σ1 A s.heap H locs → lv_has ls 5 [(0, .ref (gL g 40)), (1, .int x1), (2, .int x2), (3, .int x3)] → WQ p l e { frames := 1, cells := 0, slots := 0, locals := 21 } s m args below meth c g P A (some (.int r)) τ H locs (F0 m 46 ls []) := by
    intro x1 x2 x3 σ1 H locs ls h hB hl
    unfold f_X12_turning_b46 at h
    refine lv_aload_n hx hb dX12_turning_46 rfl (lv_at hl 0 rfl) ?_
    refine lv_bipush (v := 10) hx hb dX12_turning_47 (by decide) ?_
    replace h := b2_eq h; obtain ⟨r_8, s_9, hc_10, h⟩ := h
    refine R_call (rest := []) [] (R_runV (n := 1) (As := [.int (10 : Int32)]) ⟨hx, hb, hml, hown, ht⟩ (fun _ h9 => h9) hK hZ hA hB (c_X12_body l g P σ1 (10 : Int32) H.size hc_10) (R_recv hK hB (by decide) (cell_8 rfl) rfl) tw1331 tw1328 tw1330 pw57 tw5 ⟨by decide, by decide, by decide⟩ rfl rfl ⟨Nat.le_of_ble_eq_true rfl, Nat.le_of_ble_eq_true rfl⟩ rfl hl.1 rfl (Nat.le_of_ble_eq_true rfl) dX12_turning_49 ⟨Nat.zero_le _, Nat.zero_le _⟩) hB hA rfl (fun H locs hB => ?_)
    refine lv_iload_n hx hb dX12_turning_52 rfl (lv_at hl 2 rfl) ?_
    refine lv_iload_n hx hb dX12_turning_53 rfl (lv_at hl 1 rfl) ?_
    refine lv_iadd hx hb dX12_turning_54 ?_
    refine lv_istore (lv' := [(4, .int (x2 + x1)), (0, .ref (gL g 40)), (1, .int x1), (2, .int x2), (3, .int x3)]) hx hb dX12_turning_55 hl (by decide) rfl (fun ls hl => ?_)
    refine lv_iload_n hx hb dX12_turning_57 rfl (lv_at hl 4 rfl) ?_
    refine lv_iconst (v := 1) hx hb dX12_turning_58 (by decide) ?_
    refine lv_icmp_eq (tgt := 67) hx hb dX12_turning_59 (by decide) (fun c_11 => ?_) (fun c_11 => ?_)
    · replace h := itp h c_11
      exact hb_67 x1 x3 (x2 + x1) s_9 H locs ls h hB (lv_sub hl [1, 2, 4, 0] rfl)
    · replace h := itn h c_11
      refine lv_iload_n hx hb dX12_turning_62 rfl (lv_at hl 4 rfl) ?_
      refine lv_iconst (v := 3) hx hb dX12_turning_63 (by decide) ?_
      refine lv_icmp_ne (tgt := 78) hx hb dX12_turning_64 (by decide) (fun c_15 => ?_) (fun c_15 => ?_)
      · replace h := itn h c_15
        exact hb_78 x1 x3 (x2 + x1) s_9 H locs ls h hB (lv_sub hl [2, 4, 0] rfl)
      · replace h := itp h c_15
        exact hb_67 x1 x3 (x2 + x1) s_9 H locs ls h hB (lv_sub hl [1, 2, 4, 0] rfl)
  have hb_40 : ∀ (x1 : Int32) (x2 : Int32) (x3 : Int32) (σ1 : Hp) (H : Heap) (locs : List Loc) (ls : Array Slot), f_X12_turning_b40 x1 x2 x3 σ1 = some (r, τ) → tB g P σ1 A s.heap H locs → lv_has ls 5 [(0, .ref (gL g 40)), (1, .int x1), (2, .int x2), (3, .int x3)] → WQ p l e { frames := 1, cells := 0, slots := 0, locals := 21 } s m args below meth c g P A (some (.int r)) τ H locs (F0 m 40 ls []) := by
    intro x1 x2 x3 σ1 H locs ls h hB hl
    unfold f_X12_turning_b40 at h
    refine lv_aload_n hx hb dX12_turning_40 rfl (lv_at hl 0 rfl) ?_
    refine lv_bipush (v := 20) hx hb dX12_turning_41 (by decide) ?_
    replace h := b2_eq h; obtain ⟨r_5, s_6, hc_7, h⟩ := h
    refine R_call (rest := []) [] (R_runV (n := 1) (As := [.int (20 : Int32)]) ⟨hx, hb, hml, hown, ht⟩ (fun _ h9 => h9) hK hZ hA hB (c_X12_body l g P σ1 (20 : Int32) H.size hc_7) (R_recv hK hB (by decide) (cell_8 rfl) rfl) tw1331 tw1328 tw1330 pw57 tw5 ⟨by decide, by decide, by decide⟩ rfl rfl ⟨Nat.le_of_ble_eq_true rfl, Nat.le_of_ble_eq_true rfl⟩ rfl hl.1 rfl (Nat.le_of_ble_eq_true rfl) dX12_turning_43 ⟨Nat.zero_le _, Nat.zero_le _⟩) hB hA rfl (fun H locs hB => ?_)
    exact hb_46 x1 x2 x3 s_6 H locs ls h hB (lv_sub hl [0, 1, 2, 3] rfl)
  have hb_30 : ∀ (x1 : Int32) (x2 : Int32) (x3 : Int32) (σ1 : Hp) (H : Heap) (locs : List Loc) (ls : Array Slot), f_X12_turning_b30 x1 x2 x3 σ1 = some (r, τ) → tB g P σ1 A s.heap H locs → lv_has ls 5 [(0, .ref (gL g 40)), (1, .int x1), (2, .int x2), (3, .int x3)] → WQ p l e { frames := 1, cells := 0, slots := 0, locals := 21 } s m args below meth c g P A (some (.int r)) τ H locs (F0 m 30 ls []) := by
    intro x1 x2 x3 σ1 H locs ls h hB hl
    unfold f_X12_turning_b30 at h
    refine lv_iload_n hx hb dX12_turning_30 rfl (lv_at hl 3 rfl) ?_
    refine lv_iconst (v := 1) hx hb dX12_turning_31 (by decide) ?_
    refine lv_icmp_eq (tgt := 40) hx hb dX12_turning_32 (by decide) (fun c_4 => ?_) (fun c_4 => ?_)
    · replace h := itp h c_4
      exact hb_40 x1 x2 x3 σ1 H locs ls h hB (lv_sub hl [0, 1, 2, 3] rfl)
    · replace h := itn h c_4
      refine lv_iload_n hx hb dX12_turning_35 rfl (lv_at hl 3 rfl) ?_
      refine lv_iconst (v := 3) hx hb dX12_turning_36 (by decide) ?_
      refine lv_icmp_ne (tgt := 46) hx hb dX12_turning_37 (by decide) (fun c_16 => ?_) (fun c_16 => ?_)
      · replace h := itn h c_16
        exact hb_46 x1 x2 x3 σ1 H locs ls h hB (lv_sub hl [0, 1, 2, 3] rfl)
      · replace h := itp h c_16
        exact hb_40 x1 x2 x3 σ1 H locs ls h hB (lv_sub hl [0, 1, 2, 3] rfl)
  have hb_19 : ∀ (x1 : Int32) (x2 : Int32) (x3 : Int32) (σ1 : Hp) (H : Heap) (locs : List Loc) (ls : Array Slot), f_X12_turning_b19 x1 x2 x3 σ1 = some (r, τ) → tB g P σ1 A s.heap H locs → lv_has ls 5 [(0, .ref (gL g 40)), (1, .int x1), (2, .int x2), (3, .int x3)] → WQ p l e { frames := 1, cells := 0, slots := 0, locals := 21 } s m args below meth c g P A (some (.int r)) τ H locs (F0 m 19 ls []) := by
    intro x1 x2 x3 σ1 H locs ls h hB hl
    unfold f_X12_turning_b19 at h
    refine lv_iload_n hx hb dX12_turning_19 rfl (lv_at hl 3 rfl) ?_
    refine lv_iconst (v := 4) hx hb dX12_turning_20 (by decide) ?_
    refine lv_icmp_ne (tgt := 30) hx hb dX12_turning_21 (by decide) (fun c_3 => ?_) (fun c_3 => ?_)
    · replace h := itn h c_3
      exact hb_30 x1 x2 x3 σ1 H locs ls h hB (lv_sub hl [0, 1, 2, 3] rfl)
    · replace h := itp h c_3
      refine lv_aload_n hx hb dX12_turning_24 rfl (lv_at hl 0 rfl) ?_
      refine lv_bipush (v := 51) hx hb dX12_turning_25 (by decide) ?_
      replace h := b2_eq h; obtain ⟨r_17, s_18, hc_19, h⟩ := h
      refine R_call (rest := []) [] (R_runV (n := 1) (As := [.int (51 : Int32)]) ⟨hx, hb, hml, hown, ht⟩ (fun _ h9 => h9) hK hZ hA hB (c_X12_body l g P σ1 (51 : Int32) H.size hc_19) (R_recv hK hB (by decide) (cell_8 rfl) rfl) tw1331 tw1328 tw1330 pw57 tw5 ⟨by decide, by decide, by decide⟩ rfl rfl ⟨Nat.le_of_ble_eq_true rfl, Nat.le_of_ble_eq_true rfl⟩ rfl hl.1 rfl (Nat.le_of_ble_eq_true rfl) dX12_turning_27 ⟨Nat.zero_le _, Nat.zero_le _⟩) hB hA rfl (fun H locs hB => ?_)
      exact hb_30 x1 x2 x3 s_18 H locs ls h hB (lv_sub hl [0, 1, 2, 3] rfl)
  suffices hmain : ∀ (H : Heap) (locs : List Loc) (ls : Array Slot), tB g P σ A s.heap H locs → lv_has ls 5 [(0, .ref (gL g 40)), (1, .int a1), (2, .int a2)] → WQ p l e { frames := 1, cells := 0, slots := 0, locals := 21 } s m args below meth c g P A (some (.int r)) τ H locs (F0 m 0 ls []) from hmain _ _ ls0 hB0 hl0
  intro H locs ls hB hl
  unfold f_X12_turning at h
  refine lv_aload_n hx hb dX12_turning_0 rfl (lv_at hl 0 rfl) ?_
  refine R_get (v := .ref (gL g 46)) hx hb ht ui_X12 hown hK hB (by decide) (cell_8 rfl) rfl 6 (by decide) (ht _ tw922) (fun _ h9 => h9) rfl dX12_turning_1 ?_
  refine lv_iload_n hx hb dX12_turning_4 rfl (lv_at hl 1 rfl) ?_
  replace h := ck_eq h; obtain ⟨q_1, h⟩ := h
  refine R_iald hx hb hK hB rfl (inb_eq q_1) dX12_turning_5 ?_
  refine lv_istore_n (lv' := [(3, .int (hI σ 46 a1.toNatClampNeg)), (0, .ref (gL g 40)), (1, .int a1), (2, .int a2)]) hx hb dX12_turning_6 rfl hl (by decide) rfl (fun ls hl => ?_)
  refine lv_iload_n hx hb dX12_turning_7 rfl (lv_at hl 0 rfl) ?_
  refine lv_bipush (v := 6) hx hb dX12_turning_8 (by decide) ?_
  refine lv_icmp_ne (tgt := 19) hx hb dX12_turning_10 (by decide) (fun c_2 => ?_) (fun c_2 => ?_)
  · replace h := itn h c_2
    exact hb_19 a1 a2 (hI σ 46 a1.toNatClampNeg) σ H locs ls h hB (lv_sub hl [1, 2, 3, 0] rfl)
  · replace h := itp h c_2
    refine lv_aload_n hx hb dX12_turning_13 rfl (lv_at hl 1 rfl) ?_
    refine lv_bipush (v := 70) hx hb dX12_turning_14 (by decide) ?_
    replace h := b2_eq h; obtain ⟨r_20, s_21, hc_22, h⟩ := h
    refine R_call (rest := []) [] (R_runV (n := 1) (As := [.int (70 : Int32)]) ⟨hx, hb, hml, hown, ht⟩ (fun _ h9 => h9) hK hZ hA hB (c_X12_body l g P σ (70 : Int32) H.size hc_22) (R_recv hK hB (by decide) (cell_8 rfl) rfl) tw1331 tw1328 tw1330 pw57 tw5 ⟨by decide, by decide, by decide⟩ rfl rfl ⟨Nat.le_of_ble_eq_true rfl, Nat.le_of_ble_eq_true rfl⟩ rfl hl.1 rfl (Nat.le_of_ble_eq_true rfl) dX12_turning_16 ⟨Nat.zero_le _, Nat.zero_le _⟩) hB hA rfl (fun H locs hB => ?_)
    exact hb_19 a1 a2 (hI σ 46 a1.toNatClampNeg) s_21 H locs ls h hB (lv_sub hl [1, 2, 3, 0] rfl)
def f_X12_adding_b82 (x1 : Int32) (x4 : Int32) (x5 : Int32) (σ1 : Hp) : Option (Int32 × Hp) := b2 (f_X12_body (11 : Int32) σ1) (fun r_6 s_7 => b2 (f_X12_turning x1 x4 s_7) (fun r_9 s_10 => if x5 = 0 then some ((r_9 * (2 : Int32)), s_10) else some (((r_9 * (2 : Int32)) * (3 : Int32)), s_10)))
def f_X12_adding_b69 (x1 : Int32) (x4 : Int32) (xt0 : Int32) (σ1 : Hp) : Option (Int32 × Hp) := if xt0 = 0 then f_X12_adding_b82 x1 x4 xt0 σ1 else b2 (f_X12_body (30 : Int32) σ1) (fun r_13 s_14 => f_X12_adding_b82 x1 x4 xt0 s_14)
def f_X12_adding_b64 (x1 : Int32) (x4 : Int32) (σ1 : Hp) : Option (Int32 × Hp) := f_X12_adding_b69 x1 x4 (1 : Int32) σ1
def f_X12_adding_b48 (x1 : Int32) (x3 : Int32) (x4 : Int32) (σ1 : Hp) : Option (Int32 × Hp) := if x3 = (2 : Int32) then f_X12_adding_b64 x1 x4 σ1 else if x3 = (5 : Int32) then f_X12_adding_b64 x1 x4 σ1 else if x3 = (6 : Int32) then f_X12_adding_b64 x1 x4 σ1 else f_X12_adding_b69 x1 x4 (0 : Int32) σ1
def f_X12_adding_b32 (x1 : Int32) (x2 : Int32) (x3 : Int32) (x4 : Int32) (σ1 : Hp) : Option (Int32 × Hp) := if x3 = (3 : Int32) then b2 (f_X12_body (40 : Int32) σ1) (fun r_18 s_19 => f_X12_adding_b48 x1 x3 (x2 + (1 : Int32)) s_19) else f_X12_adding_b48 x1 x3 x4 σ1
def f_X12_adding (a1 : Int32) (a2 : Int32) (σ : Hp) : Option (Int32 × Hp) := ck (inb a1 6 = true) (if (hI σ 46 a1.toNatClampNeg) = (6 : Int32) then b2 (f_X12_body (71 : Int32) σ) (fun r_21 s_22 => f_X12_adding_b32 a1 a2 (hI σ 46 a1.toNatClampNeg) (a2 - (hI s_22 47 a1.toNatClampNeg)) s_22) else f_X12_adding_b32 a1 a2 (hI σ 46 a1.toNatClampNeg) a2 σ)
set_option maxHeartbeats 4000000 in
set_option maxRecDepth 100000 in
theorem c_X12_adding (l : Launch) (g : tG) (P : Nat → Nat) (σ : Hp) (a1 : Int32) (a2 : Int32) (sz : Nat) {r : Int32} {τ : Hp} (h : f_X12_adding a1 a2 σ = some (r, τ)) : Met l yX12_adding (Cond.code yX12_adding cX12_adding 7 (some .int) :: tblG) ({ frames := 2, cells := 0, slots := 0, locals := 45 }) (va_Pc [.ref (gL g 40), .int a1, .int a2] (tPre g P σ sz)) (tQ (some (.int r)) (tPost g P τ (va_A (wC g P σ) sz)) (va_A (wC g P σ) sz)) 0 0 (va_A (wC g P σ) sz) := by
  refine T_start (B := fun A => tPost g P τ A) (by decide) (Nat.le_of_ble_eq_true rfl) ?_
  intro p e s m args below meth c ls0 A hx hb hml hr hown hlocks ht hnm hK hZ hA hB0 hl0
  have hb_82 : ∀ (x1 : Int32) (x4 : Int32) (x5 : Int32) (σ1 : Hp) (H : Heap) (locs : List Loc) (ls : Array Slot), f_X12_adding_b82 x1 x4 x5 σ1 = some (r, τ) → tB g P σ1 A s.heap H locs → lv_has ls 7 [(0, .ref (gL g 40)), (1, .int x1), (4, .int x4), (5, .int x5)] → WQ p l e { frames := 2, cells := 0, slots := 0, locals := 45 } s m args below meth c g P A (some (.int r)) τ H locs (F0 m 82 ls []) := by
    intro x1 x4 x5 σ1 H locs ls h hB hl
    unfold f_X12_adding_b82 at h
    refine lv_aload_n hx hb dX12_adding_82 rfl (lv_at hl 0 rfl) ?_
    refine lv_bipush (v := 11) hx hb dX12_adding_83 (by decide) ?_
    replace h := b2_eq h; obtain ⟨r_6, s_7, hc_8, h⟩ := h
    refine R_call (rest := []) [] (R_runV (n := 1) (As := [.int (11 : Int32)]) ⟨hx, hb, hml, hown, ht⟩ (fun _ h9 => h9) hK hZ hA hB (c_X12_body l g P σ1 (11 : Int32) H.size hc_8) (R_recv hK hB (by decide) (cell_8 rfl) rfl) tw1331 tw1328 tw1330 pw57 tw5 ⟨by decide, by decide, by decide⟩ rfl rfl ⟨Nat.le_of_ble_eq_true rfl, Nat.le_of_ble_eq_true rfl⟩ rfl hl.1 rfl (Nat.le_of_ble_eq_true rfl) dX12_adding_85 ⟨Nat.zero_le _, Nat.zero_le _⟩) hB hA rfl (fun H locs hB => ?_)
    refine lv_aload_n hx hb dX12_adding_88 rfl (lv_at hl 0 rfl) ?_
    refine lv_iload_n hx hb dX12_adding_89 rfl (lv_at hl 1 rfl) ?_
    refine lv_iload hx hb dX12_adding_90 (lv_at hl 2 rfl) ?_
    replace h := b2_eq h; obtain ⟨r_9, s_10, hc_11, h⟩ := h
    refine R_call (rest := []) [.int r_9] (R_runV (n := 2) (As := [.int x1, .int x4]) ⟨hx, hb, hml, hown, ht⟩ (fun _ h9 => h9) hK hZ hA hB (c_X12_turning l g P s_7 x1 x4 H.size hc_11) (R_recv hK hB (by decide) (cell_8 rfl) rfl) tw1327 tw1324 tw1326 pw56 tw5 ⟨by decide, by decide, by decide⟩ rfl rfl ⟨Nat.le_of_ble_eq_true rfl, Nat.le_of_ble_eq_true rfl⟩ rfl hl.1 rfl (Nat.le_of_ble_eq_true rfl) dX12_adding_92 ⟨Nat.zero_le _, Nat.zero_le _⟩) hB hA rfl (fun H locs hB => ?_)
    refine lv_iconst (v := 2) hx hb dX12_adding_95 (by decide) ?_
    refine lv_imul hx hb dX12_adding_96 ?_
    refine lv_istore (lv' := [(6, .int (r_9 * (2 : Int32))), (0, .ref (gL g 40)), (1, .int x1), (4, .int x4), (5, .int x5)]) hx hb dX12_adding_97 hl (by decide) rfl (fun ls hl => ?_)
    refine lv_iload hx hb dX12_adding_99 (lv_at hl 4 rfl) ?_
    refine lv_if_eq (tgt := 111) hx hb dX12_adding_101 (by decide) (fun c_12 => ?_) (fun c_12 => ?_)
    · replace h := itp h c_12
      refine lv_iload hx hb dX12_adding_111 (lv_at hl 0 rfl) ?_
      obtain ⟨rfl, rfl⟩ := Prod.mk.inj (Option.some.inj h)
      exact W.iret hx hb hr (R_end hB) hB.2.2.2.2 dX12_adding_113
    · replace h := itn h c_12
      refine lv_iload hx hb dX12_adding_104 (lv_at hl 0 rfl) ?_
      refine lv_iconst (v := 3) hx hb dX12_adding_106 (by decide) ?_
      refine lv_imul hx hb dX12_adding_107 ?_
      refine lv_goto (tgt := 113) hx hb dX12_adding_108 (by decide) ?_
      obtain ⟨rfl, rfl⟩ := Prod.mk.inj (Option.some.inj h)
      exact W.iret hx hb hr (R_end hB) hB.2.2.2.2 dX12_adding_113
  have hb_69 : ∀ (x1 : Int32) (x4 : Int32) (xt0 : Int32) (σ1 : Hp) (H : Heap) (locs : List Loc) (ls : Array Slot), f_X12_adding_b69 x1 x4 xt0 σ1 = some (r, τ) → tB g P σ1 A s.heap H locs → lv_has ls 7 [(0, .ref (gL g 40)), (1, .int x1), (4, .int x4)] → WQ p l e { frames := 2, cells := 0, slots := 0, locals := 45 } s m args below meth c g P A (some (.int r)) τ H locs (F0 m 69 ls [.int xt0]) := by
    intro x1 x4 xt0 σ1 H locs ls h hB hl
    unfold f_X12_adding_b69 at h
    refine lv_istore (lv' := [(5, .int xt0), (0, .ref (gL g 40)), (1, .int x1), (4, .int x4)]) hx hb dX12_adding_69 hl (by decide) rfl (fun ls hl => ?_)
    refine lv_iload hx hb dX12_adding_71 (lv_at hl 0 rfl) ?_
    refine lv_if_eq (tgt := 82) hx hb dX12_adding_73 (by decide) (fun c_5 => ?_) (fun c_5 => ?_)
    · replace h := itp h c_5
      exact hb_82 x1 x4 xt0 σ1 H locs ls h hB (lv_sub hl [1, 2, 3, 0] rfl)
    · replace h := itn h c_5
      refine lv_aload_n hx hb dX12_adding_76 rfl (lv_at hl 1 rfl) ?_
      refine lv_bipush (v := 30) hx hb dX12_adding_77 (by decide) ?_
      replace h := b2_eq h; obtain ⟨r_13, s_14, hc_15, h⟩ := h
      refine R_call (rest := []) [] (R_runV (n := 1) (As := [.int (30 : Int32)]) ⟨hx, hb, hml, hown, ht⟩ (fun _ h9 => h9) hK hZ hA hB (c_X12_body l g P σ1 (30 : Int32) H.size hc_15) (R_recv hK hB (by decide) (cell_8 rfl) rfl) tw1331 tw1328 tw1330 pw57 tw5 ⟨by decide, by decide, by decide⟩ rfl rfl ⟨Nat.le_of_ble_eq_true rfl, Nat.le_of_ble_eq_true rfl⟩ rfl hl.1 rfl (Nat.le_of_ble_eq_true rfl) dX12_adding_79 ⟨Nat.zero_le _, Nat.zero_le _⟩) hB hA rfl (fun H locs hB => ?_)
      exact hb_82 x1 x4 xt0 s_14 H locs ls h hB (lv_sub hl [1, 2, 3, 0] rfl)
  have hb_64 : ∀ (x1 : Int32) (x4 : Int32) (σ1 : Hp) (H : Heap) (locs : List Loc) (ls : Array Slot), f_X12_adding_b64 x1 x4 σ1 = some (r, τ) → tB g P σ1 A s.heap H locs → lv_has ls 7 [(0, .ref (gL g 40)), (1, .int x1), (4, .int x4)] → WQ p l e { frames := 2, cells := 0, slots := 0, locals := 45 } s m args below meth c g P A (some (.int r)) τ H locs (F0 m 64 ls []) := by
    intro x1 x4 σ1 H locs ls h hB hl
    unfold f_X12_adding_b64 at h
    refine lv_iconst (v := 1) hx hb dX12_adding_64 (by decide) ?_
    refine lv_goto (tgt := 69) hx hb dX12_adding_65 (by decide) ?_
    exact hb_69 x1 x4 (1 : Int32) σ1 H locs ls h hB (lv_sub hl [0, 1, 2] rfl)
  have hb_48 : ∀ (x1 : Int32) (x3 : Int32) (x4 : Int32) (σ1 : Hp) (H : Heap) (locs : List Loc) (ls : Array Slot), f_X12_adding_b48 x1 x3 x4 σ1 = some (r, τ) → tB g P σ1 A s.heap H locs → lv_has ls 7 [(0, .ref (gL g 40)), (1, .int x1), (3, .int x3), (4, .int x4)] → WQ p l e { frames := 2, cells := 0, slots := 0, locals := 45 } s m args below meth c g P A (some (.int r)) τ H locs (F0 m 48 ls []) := by
    intro x1 x3 x4 σ1 H locs ls h hB hl
    unfold f_X12_adding_b48 at h
    refine lv_iload_n hx hb dX12_adding_48 rfl (lv_at hl 2 rfl) ?_
    refine lv_iconst (v := 2) hx hb dX12_adding_49 (by decide) ?_
    refine lv_icmp_eq (tgt := 64) hx hb dX12_adding_50 (by decide) (fun c_4 => ?_) (fun c_4 => ?_)
    · replace h := itp h c_4
      exact hb_64 x1 x4 σ1 H locs ls h hB (lv_sub hl [0, 1, 3] rfl)
    · replace h := itn h c_4
      refine lv_iload_n hx hb dX12_adding_53 rfl (lv_at hl 2 rfl) ?_
      refine lv_iconst (v := 5) hx hb dX12_adding_54 (by decide) ?_
      refine lv_icmp_eq (tgt := 64) hx hb dX12_adding_55 (by decide) (fun c_16 => ?_) (fun c_16 => ?_)
      · replace h := itp h c_16
        exact hb_64 x1 x4 σ1 H locs ls h hB (lv_sub hl [0, 1, 3] rfl)
      · replace h := itn h c_16
        refine lv_iload_n hx hb dX12_adding_58 rfl (lv_at hl 2 rfl) ?_
        refine lv_bipush (v := 6) hx hb dX12_adding_59 (by decide) ?_
        refine lv_icmp_ne (tgt := 68) hx hb dX12_adding_61 (by decide) (fun c_17 => ?_) (fun c_17 => ?_)
        · replace h := itn h c_17
          refine lv_iconst (v := 0) hx hb dX12_adding_68 (by decide) ?_
          exact hb_69 x1 x4 (0 : Int32) σ1 H locs ls h hB (lv_sub hl [0, 1, 3] rfl)
        · replace h := itp h c_17
          exact hb_64 x1 x4 σ1 H locs ls h hB (lv_sub hl [0, 1, 3] rfl)
  have hb_32 : ∀ (x1 : Int32) (x2 : Int32) (x3 : Int32) (x4 : Int32) (σ1 : Hp) (H : Heap) (locs : List Loc) (ls : Array Slot), f_X12_adding_b32 x1 x2 x3 x4 σ1 = some (r, τ) → tB g P σ1 A s.heap H locs → lv_has ls 7 [(0, .ref (gL g 40)), (1, .int x1), (2, .int x2), (3, .int x3), (4, .int x4)] → WQ p l e { frames := 2, cells := 0, slots := 0, locals := 45 } s m args below meth c g P A (some (.int r)) τ H locs (F0 m 32 ls []) := by
    intro x1 x2 x3 x4 σ1 H locs ls h hB hl
    unfold f_X12_adding_b32 at h
    refine lv_iload_n hx hb dX12_adding_32 rfl (lv_at hl 3 rfl) ?_
    refine lv_iconst (v := 3) hx hb dX12_adding_33 (by decide) ?_
    refine lv_icmp_ne (tgt := 48) hx hb dX12_adding_34 (by decide) (fun c_3 => ?_) (fun c_3 => ?_)
    · replace h := itn h c_3
      exact hb_48 x1 x3 x4 σ1 H locs ls h hB (lv_sub hl [0, 1, 3, 4] rfl)
    · replace h := itp h c_3
      refine lv_aload_n hx hb dX12_adding_37 rfl (lv_at hl 0 rfl) ?_
      refine lv_bipush (v := 40) hx hb dX12_adding_38 (by decide) ?_
      replace h := b2_eq h; obtain ⟨r_18, s_19, hc_20, h⟩ := h
      refine R_call (rest := []) [] (R_runV (n := 1) (As := [.int (40 : Int32)]) ⟨hx, hb, hml, hown, ht⟩ (fun _ h9 => h9) hK hZ hA hB (c_X12_body l g P σ1 (40 : Int32) H.size hc_20) (R_recv hK hB (by decide) (cell_8 rfl) rfl) tw1331 tw1328 tw1330 pw57 tw5 ⟨by decide, by decide, by decide⟩ rfl rfl ⟨Nat.le_of_ble_eq_true rfl, Nat.le_of_ble_eq_true rfl⟩ rfl hl.1 rfl (Nat.le_of_ble_eq_true rfl) dX12_adding_40 ⟨Nat.zero_le _, Nat.zero_le _⟩) hB hA rfl (fun H locs hB => ?_)
      refine lv_iload_n hx hb dX12_adding_43 rfl (lv_at hl 2 rfl) ?_
      refine lv_iconst (v := 1) hx hb dX12_adding_44 (by decide) ?_
      refine lv_iadd hx hb dX12_adding_45 ?_
      refine lv_istore (lv' := [(4, .int (x2 + (1 : Int32))), (0, .ref (gL g 40)), (1, .int x1), (2, .int x2), (3, .int x3)]) hx hb dX12_adding_46 hl (by decide) rfl (fun ls hl => ?_)
      exact hb_48 x1 x3 (x2 + (1 : Int32)) s_19 H locs ls h hB (lv_sub hl [1, 2, 4, 0] rfl)
  suffices hmain : ∀ (H : Heap) (locs : List Loc) (ls : Array Slot), tB g P σ A s.heap H locs → lv_has ls 7 [(0, .ref (gL g 40)), (1, .int a1), (2, .int a2)] → WQ p l e { frames := 2, cells := 0, slots := 0, locals := 45 } s m args below meth c g P A (some (.int r)) τ H locs (F0 m 0 ls []) from hmain _ _ ls0 hB0 hl0
  intro H locs ls hB hl
  unfold f_X12_adding at h
  refine lv_aload_n hx hb dX12_adding_0 rfl (lv_at hl 0 rfl) ?_
  refine R_get (v := .ref (gL g 46)) hx hb ht ui_X12 hown hK hB (by decide) (cell_8 rfl) rfl 6 (by decide) (ht _ tw922) (fun _ h9 => h9) rfl dX12_adding_1 ?_
  refine lv_iload_n hx hb dX12_adding_4 rfl (lv_at hl 1 rfl) ?_
  replace h := ck_eq h; obtain ⟨q_1, h⟩ := h
  refine R_iald hx hb hK hB rfl (inb_eq q_1) dX12_adding_5 ?_
  refine lv_istore_n (lv' := [(3, .int (hI σ 46 a1.toNatClampNeg)), (0, .ref (gL g 40)), (1, .int a1), (2, .int a2)]) hx hb dX12_adding_6 rfl hl (by decide) rfl (fun ls hl => ?_)
  refine lv_iload_n hx hb dX12_adding_7 rfl (lv_at hl 3 rfl) ?_
  refine lv_istore (lv' := [(4, .int a2), (3, .int (hI σ 46 a1.toNatClampNeg)), (0, .ref (gL g 40)), (1, .int a1), (2, .int a2)]) hx hb dX12_adding_8 hl (by decide) rfl (fun ls hl => ?_)
  refine lv_iload_n hx hb dX12_adding_10 rfl (lv_at hl 1 rfl) ?_
  refine lv_bipush (v := 6) hx hb dX12_adding_11 (by decide) ?_
  refine lv_icmp_ne (tgt := 32) hx hb dX12_adding_13 (by decide) (fun c_2 => ?_) (fun c_2 => ?_)
  · replace h := itn h c_2
    exact hb_32 a1 a2 (hI σ 46 a1.toNatClampNeg) a2 σ H locs ls h hB (lv_sub hl [2, 3, 4, 1, 0] rfl)
  · replace h := itp h c_2
    refine lv_aload_n hx hb dX12_adding_16 rfl (lv_at hl 2 rfl) ?_
    refine lv_bipush (v := 71) hx hb dX12_adding_17 (by decide) ?_
    replace h := b2_eq h; obtain ⟨r_21, s_22, hc_23, h⟩ := h
    refine R_call (rest := []) [] (R_runV (n := 1) (As := [.int (71 : Int32)]) ⟨hx, hb, hml, hown, ht⟩ (fun _ h9 => h9) hK hZ hA hB (c_X12_body l g P σ (71 : Int32) H.size hc_23) (R_recv hK hB (by decide) (cell_8 rfl) rfl) tw1331 tw1328 tw1330 pw57 tw5 ⟨by decide, by decide, by decide⟩ rfl rfl ⟨Nat.le_of_ble_eq_true rfl, Nat.le_of_ble_eq_true rfl⟩ rfl hl.1 rfl (Nat.le_of_ble_eq_true rfl) dX12_adding_19 ⟨Nat.zero_le _, Nat.zero_le _⟩) hB hA rfl (fun H locs hB => ?_)
    refine lv_iload_n hx hb dX12_adding_22 rfl (lv_at hl 4 rfl) ?_
    refine lv_aload_n hx hb dX12_adding_23 rfl (lv_at hl 2 rfl) ?_
    refine R_get (v := .ref (gL g 47)) hx hb ht ui_X12 hown hK hB (by decide) (cell_8 rfl) rfl 7 (by decide) (ht _ tw923) (fun _ h9 => h9) rfl dX12_adding_24 ?_
    refine lv_iload_n hx hb dX12_adding_27 rfl (lv_at hl 3 rfl) ?_
    refine R_iald hx hb hK hB rfl (inb_eq q_1) dX12_adding_28 ?_
    refine lv_isub hx hb dX12_adding_29 ?_
    refine lv_istore (lv' := [(4, .int (a2 - (hI s_22 47 a1.toNatClampNeg))), (3, .int (hI σ 46 a1.toNatClampNeg)), (0, .ref (gL g 40)), (1, .int a1), (2, .int a2)]) hx hb dX12_adding_30 hl (by decide) rfl (fun ls hl => ?_)
    exact hb_32 a1 a2 (hI σ 46 a1.toNatClampNeg) (a2 - (hI s_22 47 a1.toNatClampNeg)) s_22 H locs ls h hB (lv_sub hl [2, 3, 4, 1, 0] rfl)
def f_X12_reading_b29 (x1 : Int32) (x2 : Int32) (x3 : Int32) (σ1 : Hp) : Option (Int32 × Hp) := b2 (f_X12_body (12 : Int32) σ1) (fun r_4 s_5 => b2 (f_X12_adding x1 x2 s_5) (fun r_7 s_8 => ck (inb x1 6 = true) (b2 (f_X12_turning x1 (x2 - (hI s_8 47 x1.toNatClampNeg)) s_8) (fun r_11 s_12 => if x3 = (4 : Int32) then some ((-(r_7 ^^^ r_11)), s_12) else if x3 = (5 : Int32) then some (((r_7 ^^^ r_11) ^^^ (5 : Int32)), s_12) else some ((r_7 ^^^ r_11), s_12)))))
def f_X12_reading_b18 (x1 : Int32) (x2 : Int32) (x3 : Int32) (σ1 : Hp) : Option (Int32 × Hp) := if x3 = (5 : Int32) then b2 (f_X12_body (60 : Int32) σ1) (fun r_16 s_17 => f_X12_reading_b29 x1 x2 x3 s_17) else f_X12_reading_b29 x1 x2 x3 σ1
def f_X12_reading (a1 : Int32) (a2 : Int32) (σ : Hp) : Option (Int32 × Hp) := ck (inb a1 6 = true) (if (hI σ 46 a1.toNatClampNeg) = (4 : Int32) then b2 (f_X12_body (50 : Int32) σ) (fun r_19 s_20 => f_X12_reading_b18 a1 a2 (hI σ 46 a1.toNatClampNeg) s_20) else f_X12_reading_b18 a1 a2 (hI σ 46 a1.toNatClampNeg) σ)
set_option maxHeartbeats 4000000 in
set_option maxRecDepth 100000 in
theorem c_X12_reading (l : Launch) (g : tG) (P : Nat → Nat) (σ : Hp) (a1 : Int32) (a2 : Int32) (sz : Nat) {r : Int32} {τ : Hp} (h : f_X12_reading a1 a2 σ = some (r, τ)) : Met l yX12_reading (Cond.code yX12_reading cX12_reading 5 (some .int) :: tblG) ({ frames := 3, cells := 0, slots := 0, locals := 71 }) (va_Pc [.ref (gL g 40), .int a1, .int a2] (tPre g P σ sz)) (tQ (some (.int r)) (tPost g P τ (va_A (wC g P σ) sz)) (va_A (wC g P σ) sz)) 0 0 (va_A (wC g P σ) sz) := by
  refine T_start (B := fun A => tPost g P τ A) (by decide) (Nat.le_of_ble_eq_true rfl) ?_
  intro p e s m args below meth c ls0 A hx hb hml hr hown hlocks ht hnm hK hZ hA hB0 hl0
  have hb_29 : ∀ (x1 : Int32) (x2 : Int32) (x3 : Int32) (σ1 : Hp) (H : Heap) (locs : List Loc) (ls : Array Slot), f_X12_reading_b29 x1 x2 x3 σ1 = some (r, τ) → tB g P σ1 A s.heap H locs → lv_has ls 5 [(0, .ref (gL g 40)), (1, .int x1), (2, .int x2), (3, .int x3)] → WQ p l e { frames := 3, cells := 0, slots := 0, locals := 71 } s m args below meth c g P A (some (.int r)) τ H locs (F0 m 29 ls []) := by
    intro x1 x2 x3 σ1 H locs ls h hB hl
    unfold f_X12_reading_b29 at h
    refine lv_aload_n hx hb dX12_reading_29 rfl (lv_at hl 0 rfl) ?_
    refine lv_bipush (v := 12) hx hb dX12_reading_30 (by decide) ?_
    replace h := b2_eq h; obtain ⟨r_4, s_5, hc_6, h⟩ := h
    refine R_call (rest := []) [] (R_runV (n := 1) (As := [.int (12 : Int32)]) ⟨hx, hb, hml, hown, ht⟩ (fun _ h9 => h9) hK hZ hA hB (c_X12_body l g P σ1 (12 : Int32) H.size hc_6) (R_recv hK hB (by decide) (cell_8 rfl) rfl) tw1331 tw1328 tw1330 pw57 tw5 ⟨by decide, by decide, by decide⟩ rfl rfl ⟨Nat.le_of_ble_eq_true rfl, Nat.le_of_ble_eq_true rfl⟩ rfl hl.1 rfl (Nat.le_of_ble_eq_true rfl) dX12_reading_32 ⟨Nat.zero_le _, Nat.zero_le _⟩) hB hA rfl (fun H locs hB => ?_)
    refine lv_aload_n hx hb dX12_reading_35 rfl (lv_at hl 0 rfl) ?_
    refine lv_iload_n hx hb dX12_reading_36 rfl (lv_at hl 1 rfl) ?_
    refine lv_iload_n hx hb dX12_reading_37 rfl (lv_at hl 2 rfl) ?_
    replace h := b2_eq h; obtain ⟨r_7, s_8, hc_9, h⟩ := h
    refine R_call (rest := []) [.int r_7] (R_runV (n := 2) (As := [.int x1, .int x2]) ⟨hx, hb, hml, hown, ht⟩ (fun _ h9 => h9) hK hZ hA hB (c_X12_adding l g P s_5 x1 x2 H.size hc_9) (R_recv hK hB (by decide) (cell_8 rfl) rfl) tw1335 tw1332 tw1334 pw58 tw5 ⟨by decide, by decide, by decide⟩ rfl rfl ⟨Nat.le_of_ble_eq_true rfl, Nat.le_of_ble_eq_true rfl⟩ rfl hl.1 rfl (Nat.le_of_ble_eq_true rfl) dX12_reading_38 ⟨Nat.zero_le _, Nat.zero_le _⟩) hB hA rfl (fun H locs hB => ?_)
    refine lv_istore (lv' := [(4, .int r_7), (0, .ref (gL g 40)), (1, .int x1), (2, .int x2), (3, .int x3)]) hx hb dX12_reading_41 hl (by decide) rfl (fun ls hl => ?_)
    refine lv_iload hx hb dX12_reading_43 (lv_at hl 0 rfl) ?_
    refine lv_aload_n hx hb dX12_reading_45 rfl (lv_at hl 1 rfl) ?_
    refine lv_iload_n hx hb dX12_reading_46 rfl (lv_at hl 2 rfl) ?_
    refine lv_iload_n hx hb dX12_reading_47 rfl (lv_at hl 3 rfl) ?_
    refine lv_aload_n hx hb dX12_reading_48 rfl (lv_at hl 1 rfl) ?_
    refine R_get (v := .ref (gL g 47)) hx hb ht ui_X12 hown hK hB (by decide) (cell_8 rfl) rfl 7 (by decide) (ht _ tw923) (fun _ h9 => h9) rfl dX12_reading_49 ?_
    refine lv_iload_n hx hb dX12_reading_52 rfl (lv_at hl 2 rfl) ?_
    replace h := ck_eq h; obtain ⟨q_10, h⟩ := h
    refine R_iald hx hb hK hB rfl (inb_eq q_10) dX12_reading_53 ?_
    refine lv_isub hx hb dX12_reading_54 ?_
    replace h := b2_eq h; obtain ⟨r_11, s_12, hc_13, h⟩ := h
    refine R_call (rest := [.int r_7]) [.int r_11, .int r_7] (R_runV (n := 2) (As := [.int x1, .int (x2 - (hI s_8 47 x1.toNatClampNeg))]) ⟨hx, hb, hml, hown, ht⟩ (fun _ h9 => h9) hK hZ hA hB (c_X12_turning l g P s_8 x1 (x2 - (hI s_8 47 x1.toNatClampNeg)) H.size hc_13) (R_recv hK hB (by decide) (cell_8 rfl) rfl) tw1327 tw1324 tw1326 pw56 tw5 ⟨by decide, by decide, by decide⟩ rfl rfl ⟨Nat.le_of_ble_eq_true rfl, Nat.le_of_ble_eq_true rfl⟩ rfl hl.1 rfl (Nat.le_of_ble_eq_true rfl) dX12_reading_55 ⟨Nat.zero_le _, Nat.zero_le _⟩) hB hA rfl (fun H locs hB => ?_)
    refine lv_ixor hx hb dX12_reading_58 ?_
    refine lv_istore (lv' := [(4, .int (r_7 ^^^ r_11)), (0, .ref (gL g 40)), (1, .int x1), (2, .int x2), (3, .int x3)]) hx hb dX12_reading_59 hl (by decide) rfl (fun ls hl => ?_)
    refine lv_iload_n hx hb dX12_reading_61 rfl (lv_at hl 4 rfl) ?_
    refine lv_iconst (v := 4) hx hb dX12_reading_62 (by decide) ?_
    refine lv_icmp_ne (tgt := 72) hx hb dX12_reading_63 (by decide) (fun c_14 => ?_) (fun c_14 => ?_)
    · replace h := itn h c_14
      refine lv_iload_n hx hb dX12_reading_72 rfl (lv_at hl 4 rfl) ?_
      refine lv_iconst (v := 5) hx hb dX12_reading_73 (by decide) ?_
      refine lv_icmp_ne (tgt := 84) hx hb dX12_reading_74 (by decide) (fun c_15 => ?_) (fun c_15 => ?_)
      · replace h := itn h c_15
        refine lv_iload hx hb dX12_reading_84 (lv_at hl 0 rfl) ?_
        obtain ⟨rfl, rfl⟩ := Prod.mk.inj (Option.some.inj h)
        exact W.iret hx hb hr (R_end hB) hB.2.2.2.2 dX12_reading_86
      · replace h := itp h c_15
        refine lv_iload hx hb dX12_reading_77 (lv_at hl 0 rfl) ?_
        refine lv_iconst (v := 5) hx hb dX12_reading_79 (by decide) ?_
        refine lv_ixor hx hb dX12_reading_80 ?_
        refine lv_goto (tgt := 86) hx hb dX12_reading_81 (by decide) ?_
        obtain ⟨rfl, rfl⟩ := Prod.mk.inj (Option.some.inj h)
        exact W.iret hx hb hr (R_end hB) hB.2.2.2.2 dX12_reading_86
    · replace h := itp h c_14
      refine lv_iload hx hb dX12_reading_66 (lv_at hl 0 rfl) ?_
      refine lv_ineg hx hb dX12_reading_68 ?_
      refine lv_goto (tgt := 86) hx hb dX12_reading_69 (by decide) ?_
      obtain ⟨rfl, rfl⟩ := Prod.mk.inj (Option.some.inj h)
      exact W.iret hx hb hr (R_end hB) hB.2.2.2.2 dX12_reading_86
  have hb_18 : ∀ (x1 : Int32) (x2 : Int32) (x3 : Int32) (σ1 : Hp) (H : Heap) (locs : List Loc) (ls : Array Slot), f_X12_reading_b18 x1 x2 x3 σ1 = some (r, τ) → tB g P σ1 A s.heap H locs → lv_has ls 5 [(0, .ref (gL g 40)), (1, .int x1), (2, .int x2), (3, .int x3)] → WQ p l e { frames := 3, cells := 0, slots := 0, locals := 71 } s m args below meth c g P A (some (.int r)) τ H locs (F0 m 18 ls []) := by
    intro x1 x2 x3 σ1 H locs ls h hB hl
    unfold f_X12_reading_b18 at h
    refine lv_iload_n hx hb dX12_reading_18 rfl (lv_at hl 3 rfl) ?_
    refine lv_iconst (v := 5) hx hb dX12_reading_19 (by decide) ?_
    refine lv_icmp_ne (tgt := 29) hx hb dX12_reading_20 (by decide) (fun c_3 => ?_) (fun c_3 => ?_)
    · replace h := itn h c_3
      exact hb_29 x1 x2 x3 σ1 H locs ls h hB (lv_sub hl [0, 1, 2, 3] rfl)
    · replace h := itp h c_3
      refine lv_aload_n hx hb dX12_reading_23 rfl (lv_at hl 0 rfl) ?_
      refine lv_bipush (v := 60) hx hb dX12_reading_24 (by decide) ?_
      replace h := b2_eq h; obtain ⟨r_16, s_17, hc_18, h⟩ := h
      refine R_call (rest := []) [] (R_runV (n := 1) (As := [.int (60 : Int32)]) ⟨hx, hb, hml, hown, ht⟩ (fun _ h9 => h9) hK hZ hA hB (c_X12_body l g P σ1 (60 : Int32) H.size hc_18) (R_recv hK hB (by decide) (cell_8 rfl) rfl) tw1331 tw1328 tw1330 pw57 tw5 ⟨by decide, by decide, by decide⟩ rfl rfl ⟨Nat.le_of_ble_eq_true rfl, Nat.le_of_ble_eq_true rfl⟩ rfl hl.1 rfl (Nat.le_of_ble_eq_true rfl) dX12_reading_26 ⟨Nat.zero_le _, Nat.zero_le _⟩) hB hA rfl (fun H locs hB => ?_)
      exact hb_29 x1 x2 x3 s_17 H locs ls h hB (lv_sub hl [0, 1, 2, 3] rfl)
  suffices hmain : ∀ (H : Heap) (locs : List Loc) (ls : Array Slot), tB g P σ A s.heap H locs → lv_has ls 5 [(0, .ref (gL g 40)), (1, .int a1), (2, .int a2)] → WQ p l e { frames := 3, cells := 0, slots := 0, locals := 71 } s m args below meth c g P A (some (.int r)) τ H locs (F0 m 0 ls []) from hmain _ _ ls0 hB0 hl0
  intro H locs ls hB hl
  unfold f_X12_reading at h
  refine lv_aload_n hx hb dX12_reading_0 rfl (lv_at hl 0 rfl) ?_
  refine R_get (v := .ref (gL g 46)) hx hb ht ui_X12 hown hK hB (by decide) (cell_8 rfl) rfl 6 (by decide) (ht _ tw922) (fun _ h9 => h9) rfl dX12_reading_1 ?_
  refine lv_iload_n hx hb dX12_reading_4 rfl (lv_at hl 1 rfl) ?_
  replace h := ck_eq h; obtain ⟨q_1, h⟩ := h
  refine R_iald hx hb hK hB rfl (inb_eq q_1) dX12_reading_5 ?_
  refine lv_istore_n (lv' := [(3, .int (hI σ 46 a1.toNatClampNeg)), (0, .ref (gL g 40)), (1, .int a1), (2, .int a2)]) hx hb dX12_reading_6 rfl hl (by decide) rfl (fun ls hl => ?_)
  refine lv_iload_n hx hb dX12_reading_7 rfl (lv_at hl 0 rfl) ?_
  refine lv_iconst (v := 4) hx hb dX12_reading_8 (by decide) ?_
  refine lv_icmp_ne (tgt := 18) hx hb dX12_reading_9 (by decide) (fun c_2 => ?_) (fun c_2 => ?_)
  · replace h := itn h c_2
    exact hb_18 a1 a2 (hI σ 46 a1.toNatClampNeg) σ H locs ls h hB (lv_sub hl [1, 2, 3, 0] rfl)
  · replace h := itp h c_2
    refine lv_aload_n hx hb dX12_reading_12 rfl (lv_at hl 1 rfl) ?_
    refine lv_bipush (v := 50) hx hb dX12_reading_13 (by decide) ?_
    replace h := b2_eq h; obtain ⟨r_19, s_20, hc_21, h⟩ := h
    refine R_call (rest := []) [] (R_runV (n := 1) (As := [.int (50 : Int32)]) ⟨hx, hb, hml, hown, ht⟩ (fun _ h9 => h9) hK hZ hA hB (c_X12_body l g P σ (50 : Int32) H.size hc_21) (R_recv hK hB (by decide) (cell_8 rfl) rfl) tw1331 tw1328 tw1330 pw57 tw5 ⟨by decide, by decide, by decide⟩ rfl rfl ⟨Nat.le_of_ble_eq_true rfl, Nat.le_of_ble_eq_true rfl⟩ rfl hl.1 rfl (Nat.le_of_ble_eq_true rfl) dX12_reading_15 ⟨Nat.zero_le _, Nat.zero_le _⟩) hB hA rfl (fun H locs hB => ?_)
    exact hb_18 a1 a2 (hI σ 46 a1.toNatClampNeg) s_20 H locs ls h hB (lv_sub hl [1, 2, 3, 0] rfl)
def f_X12_act (a1 : Int32) (a2 : Int32) (a3 : Int32) (σ : Hp) : Option (Int32 × Hp) := b2 (f_X12_isLaw a1 (sI σ 40 36 (0 : Int32))) (fun r_1 s_2 => if r_1 = 0 then some ((0 : Int32), s_2) else if a2 < 0 then some ((0 : Int32), s_2) else if a2 ≤ (2 : Int32) then if a2 = 0 then b2 (f_X12_turning a1 a3 s_2) (fun r_15 s_16 => some (r_15, s_16)) else if a2 = (1 : Int32) then b2 (f_X12_adding a1 a3 s_2) (fun r_12 s_13 => some (r_12, s_13)) else b2 (f_X12_reading a1 a3 s_2) (fun r_9 s_10 => some (r_9, s_10)) else some ((0 : Int32), s_2))
set_option maxHeartbeats 4000000 in
set_option maxRecDepth 100000 in
theorem c_X12_act (l : Launch) (g : tG) (P : Nat → Nat) (σ : Hp) (a1 : Int32) (a2 : Int32) (a3 : Int32) (sz : Nat) {r : Int32} {τ : Hp} (h : f_X12_act a1 a2 a3 σ = some (r, τ)) : Met l yX12_act (Cond.code yX12_act cX12_act 4 (some .int) :: tblG) ({ frames := 4, cells := 0, slots := 0, locals := 95 }) (va_Pc [.ref (gL g 40), .int a1, .int a2, .int a3] (tPre g P σ sz)) (tQ (some (.int r)) (tPost g P τ (va_A (wC g P σ) sz)) (va_A (wC g P σ) sz)) 0 0 (va_A (wC g P σ) sz) := by
  refine T_start (B := fun A => tPost g P τ A) (by decide) (Nat.le_of_ble_eq_true rfl) ?_
  intro p e s m args below meth c ls0 A hx hb hml hr hown hlocks ht hnm hK hZ hA hB0 hl0
  suffices hmain : ∀ (H : Heap) (locs : List Loc) (ls : Array Slot), tB g P σ A s.heap H locs → lv_has ls 4 [(0, .ref (gL g 40)), (1, .int a1), (2, .int a2), (3, .int a3)] → WQ p l e { frames := 4, cells := 0, slots := 0, locals := 95 } s m args below meth c g P A (some (.int r)) τ H locs (F0 m 0 ls []) from hmain _ _ ls0 hB0 hl0
  intro H locs ls hB hl
  unfold f_X12_act at h
  refine lv_aload_n hx hb dX12_act_0 rfl (lv_at hl 0 rfl) ?_
  refine lv_iconst (v := 0) hx hb dX12_act_1 (by decide) ?_
  refine R_putI (v := (0 : Int32)) (ty := .int) hx hb ht ui_X12 tyX12 tyX12_ok nmX12 hown hK hB (by decide) (cell_8 rfl) rfl 36 (by decide) (ht _ tw952) (fun _ h9 => h9) rfl (by decide +kernel) rfl rfl (Nat.le_of_ble_eq_true rfl) (st8_36 rfl) dX12_act_2 (fun H locs hB => ?_)
  refine lv_aload_n hx hb dX12_act_5 rfl (lv_at hl 0 rfl) ?_
  refine lv_iload_n hx hb dX12_act_6 rfl (lv_at hl 1 rfl) ?_
  replace h := b2_eq h; obtain ⟨r_1, s_2, hc_3, h⟩ := h
  refine R_call (rest := []) [.int r_1] (R_runV (n := 1) (As := [.int a1]) ⟨hx, hb, hml, hown, ht⟩ (fun _ h9 => h9) hK hZ hA hB (c_X12_isLaw l g P (sI σ 40 36 (0 : Int32)) a1 H.size hc_3) (R_recv hK hB (by decide) (cell_8 rfl) rfl) tw1062 tw1059 tw1061 pw27 tw5 ⟨by decide, by decide, by decide⟩ rfl rfl ⟨Nat.le_of_ble_eq_true rfl, Nat.le_of_ble_eq_true rfl⟩ rfl hl.1 rfl (Nat.le_of_ble_eq_true rfl) dX12_act_7 ⟨Nat.zero_le _, Nat.zero_le _⟩) hB hA rfl (fun H locs hB => ?_)
  refine lv_if_eq (tgt := 22) hx hb dX12_act_10 (by decide) (fun c_4 => ?_) (fun c_4 => ?_)
  · replace h := itp h c_4
    refine lv_iconst (v := 0) hx hb dX12_act_22 (by decide) ?_
    obtain ⟨rfl, rfl⟩ := Prod.mk.inj (Option.some.inj h)
    exact W.iret hx hb hr (R_end hB) hB.2.2.2.2 dX12_act_23
  · replace h := itn h c_4
    refine lv_iload_n hx hb dX12_act_13 rfl (lv_at hl 2 rfl) ?_
    refine lv_if_lt (tgt := 22) hx hb dX12_act_14 (by decide) (fun c_5 => ?_) (fun c_5 => ?_)
    · replace h := itp h c_5
      refine lv_iconst (v := 0) hx hb dX12_act_22 (by decide) ?_
      obtain ⟨rfl, rfl⟩ := Prod.mk.inj (Option.some.inj h)
      exact W.iret hx hb hr (R_end hB) hB.2.2.2.2 dX12_act_23
    · replace h := itn h c_5
      refine lv_iload_n hx hb dX12_act_17 rfl (lv_at hl 2 rfl) ?_
      refine lv_iconst (v := 2) hx hb dX12_act_18 (by decide) ?_
      refine lv_icmp_le (tgt := 24) hx hb dX12_act_19 (by decide) (fun c_6 => ?_) (fun c_6 => ?_)
      · replace h := itp h c_6
        refine lv_iload_n hx hb dX12_act_24 rfl (lv_at hl 2 rfl) ?_
        refine lv_if_ne (tgt := 37) hx hb dX12_act_25 (by decide) (fun c_7 => ?_) (fun c_7 => ?_)
        · replace h := itn h c_7
          refine lv_iload_n hx hb dX12_act_37 rfl (lv_at hl 2 rfl) ?_
          refine lv_iconst (v := 1) hx hb dX12_act_38 (by decide) ?_
          refine lv_icmp_ne (tgt := 51) hx hb dX12_act_39 (by decide) (fun c_8 => ?_) (fun c_8 => ?_)
          · replace h := itn h c_8
            refine lv_aload_n hx hb dX12_act_51 rfl (lv_at hl 0 rfl) ?_
            refine lv_iload_n hx hb dX12_act_52 rfl (lv_at hl 1 rfl) ?_
            refine lv_iload_n hx hb dX12_act_53 rfl (lv_at hl 3 rfl) ?_
            replace h := b2_eq h; obtain ⟨r_9, s_10, hc_11, h⟩ := h
            refine R_call (rest := []) [.int r_9] (R_runV (n := 2) (As := [.int a1, .int a3]) ⟨hx, hb, hml, hown, ht⟩ (fun _ h9 => h9) hK hZ hA hB (c_X12_reading l g P s_2 a1 a3 H.size hc_11) (R_recv hK hB (by decide) (cell_8 rfl) rfl) tw1339 tw1336 tw1338 pw59 tw5 ⟨by decide, by decide, by decide⟩ rfl rfl ⟨Nat.le_of_ble_eq_true rfl, Nat.le_of_ble_eq_true rfl⟩ rfl hl.1 rfl (Nat.le_of_ble_eq_true rfl) dX12_act_54 ⟨Nat.zero_le _, Nat.zero_le _⟩) hB hA rfl (fun H locs hB => ?_)
            obtain ⟨rfl, rfl⟩ := Prod.mk.inj (Option.some.inj h)
            exact W.iret hx hb hr (R_end hB) hB.2.2.2.2 dX12_act_57
          · replace h := itp h c_8
            refine lv_aload_n hx hb dX12_act_42 rfl (lv_at hl 0 rfl) ?_
            refine lv_iload_n hx hb dX12_act_43 rfl (lv_at hl 1 rfl) ?_
            refine lv_iload_n hx hb dX12_act_44 rfl (lv_at hl 3 rfl) ?_
            replace h := b2_eq h; obtain ⟨r_12, s_13, hc_14, h⟩ := h
            refine R_call (rest := []) [.int r_12] (R_runV (n := 2) (As := [.int a1, .int a3]) ⟨hx, hb, hml, hown, ht⟩ (fun _ h9 => h9) hK hZ hA hB (c_X12_adding l g P s_2 a1 a3 H.size hc_14) (R_recv hK hB (by decide) (cell_8 rfl) rfl) tw1335 tw1332 tw1334 pw58 tw5 ⟨by decide, by decide, by decide⟩ rfl rfl ⟨Nat.le_of_ble_eq_true rfl, Nat.le_of_ble_eq_true rfl⟩ rfl hl.1 rfl (Nat.le_of_ble_eq_true rfl) dX12_act_45 ⟨Nat.zero_le _, Nat.zero_le _⟩) hB hA rfl (fun H locs hB => ?_)
            refine lv_goto (tgt := 57) hx hb dX12_act_48 (by decide) ?_
            obtain ⟨rfl, rfl⟩ := Prod.mk.inj (Option.some.inj h)
            exact W.iret hx hb hr (R_end hB) hB.2.2.2.2 dX12_act_57
        · replace h := itp h c_7
          refine lv_aload_n hx hb dX12_act_28 rfl (lv_at hl 0 rfl) ?_
          refine lv_iload_n hx hb dX12_act_29 rfl (lv_at hl 1 rfl) ?_
          refine lv_iload_n hx hb dX12_act_30 rfl (lv_at hl 3 rfl) ?_
          replace h := b2_eq h; obtain ⟨r_15, s_16, hc_17, h⟩ := h
          refine R_call (rest := []) [.int r_15] (R_runV (n := 2) (As := [.int a1, .int a3]) ⟨hx, hb, hml, hown, ht⟩ (fun _ h9 => h9) hK hZ hA hB (c_X12_turning l g P s_2 a1 a3 H.size hc_17) (R_recv hK hB (by decide) (cell_8 rfl) rfl) tw1327 tw1324 tw1326 pw56 tw5 ⟨by decide, by decide, by decide⟩ rfl rfl ⟨Nat.le_of_ble_eq_true rfl, Nat.le_of_ble_eq_true rfl⟩ rfl hl.1 rfl (Nat.le_of_ble_eq_true rfl) dX12_act_31 ⟨Nat.zero_le _, Nat.zero_le _⟩) hB hA rfl (fun H locs hB => ?_)
          refine lv_goto (tgt := 57) hx hb dX12_act_34 (by decide) ?_
          obtain ⟨rfl, rfl⟩ := Prod.mk.inj (Option.some.inj h)
          exact W.iret hx hb hr (R_end hB) hB.2.2.2.2 dX12_act_57
      · replace h := itn h c_6
        refine lv_iconst (v := 0) hx hb dX12_act_22 (by decide) ?_
        obtain ⟨rfl, rfl⟩ := Prod.mk.inj (Option.some.inj h)
        exact W.iret hx hb hr (R_end hB) hB.2.2.2.2 dX12_act_23
def f_X12_trace (a1 : Int32) (σ : Hp) : Option (Int32 × Hp) := if a1 < 0 then some ((-1 : Int32), σ) else if (20 : Int32) ≤ a1 then some ((-1 : Int32), σ) else if (hI σ 40 36) ≤ a1 then some ((-1 : Int32), σ) else ck (inb a1 20 = true) (some ((hI σ 75 a1.toNatClampNeg), σ))
set_option maxHeartbeats 4000000 in
set_option maxRecDepth 100000 in
theorem c_X12_trace (l : Launch) (g : tG) (P : Nat → Nat) (σ : Hp) (a1 : Int32) (sz : Nat) {r : Int32} {τ : Hp} (h : f_X12_trace a1 σ = some (r, τ)) : Met l yX12_trace (Cond.code yX12_trace cX12_trace 2 (some .int) :: tblG) ({ frames := 0, cells := 0, slots := 0, locals := 0 }) (va_Pc [.ref (gL g 40), .int a1] (tPre g P σ sz)) (tQ (some (.int r)) (tPost g P τ (va_A (wC g P σ) sz)) (va_A (wC g P σ) sz)) 0 0 (va_A (wC g P σ) sz) := by
  refine T_start (B := fun A => tPost g P τ A) (by decide) (Nat.le_of_ble_eq_true rfl) ?_
  intro p e s m args below meth c ls0 A hx hb hml hr hown hlocks ht hnm hK hZ hA hB0 hl0
  suffices hmain : ∀ (H : Heap) (locs : List Loc) (ls : Array Slot), tB g P σ A s.heap H locs → lv_has ls 2 [(0, .ref (gL g 40)), (1, .int a1)] → WQ p l e { frames := 0, cells := 0, slots := 0, locals := 0 } s m args below meth c g P A (some (.int r)) τ H locs (F0 m 0 ls []) from hmain _ _ ls0 hB0 hl0
  intro H locs ls hB hl
  unfold f_X12_trace at h
  refine lv_iload_n hx hb dX12_trace_0 rfl (lv_at hl 1 rfl) ?_
  refine lv_if_lt (tgt := 27) hx hb dX12_trace_1 (by decide) (fun c_1 => ?_) (fun c_1 => ?_)
  · replace h := itp h c_1
    refine lv_iconst (v := -1) hx hb dX12_trace_27 (by decide) ?_
    obtain ⟨rfl, rfl⟩ := Prod.mk.inj (Option.some.inj h)
    exact W.iret hx hb hr (R_end hB) hB.2.2.2.2 dX12_trace_28
  · replace h := itn h c_1
    refine lv_iload_n hx hb dX12_trace_4 rfl (lv_at hl 1 rfl) ?_
    refine lv_bipush (v := 20) hx hb dX12_trace_5 (by decide) ?_
    refine lv_icmp_ge (tgt := 27) hx hb dX12_trace_7 (by decide) (fun c_2 => ?_) (fun c_2 => ?_)
    · replace h := itp h c_2
      refine lv_iconst (v := -1) hx hb dX12_trace_27 (by decide) ?_
      obtain ⟨rfl, rfl⟩ := Prod.mk.inj (Option.some.inj h)
      exact W.iret hx hb hr (R_end hB) hB.2.2.2.2 dX12_trace_28
    · replace h := itn h c_2
      refine lv_iload_n hx hb dX12_trace_10 rfl (lv_at hl 1 rfl) ?_
      refine lv_aload_n hx hb dX12_trace_11 rfl (lv_at hl 0 rfl) ?_
      refine R_get (v := .int (hI σ 40 36)) hx hb ht ui_X12 hown hK hB (by decide) (cell_8 rfl) rfl 36 (by decide) (ht _ tw952) (fun _ h9 => h9) rfl dX12_trace_12 ?_
      refine lv_icmp_ge (tgt := 27) hx hb dX12_trace_15 (by decide) (fun c_3 => ?_) (fun c_3 => ?_)
      · replace h := itp h c_3
        refine lv_iconst (v := -1) hx hb dX12_trace_27 (by decide) ?_
        obtain ⟨rfl, rfl⟩ := Prod.mk.inj (Option.some.inj h)
        exact W.iret hx hb hr (R_end hB) hB.2.2.2.2 dX12_trace_28
      · replace h := itn h c_3
        refine lv_aload_n hx hb dX12_trace_18 rfl (lv_at hl 0 rfl) ?_
        refine R_get (v := .ref (gL g 75)) hx hb ht ui_X12 hown hK hB (by decide) (cell_8 rfl) rfl 35 (by decide) (ht _ tw951) (fun _ h9 => h9) rfl dX12_trace_19 ?_
        refine lv_iload_n hx hb dX12_trace_22 rfl (lv_at hl 1 rfl) ?_
        replace h := ck_eq h; obtain ⟨q_4, h⟩ := h
        refine R_iald hx hb hK hB rfl (inb_eq q_4) dX12_trace_23 ?_
        refine lv_goto (tgt := 28) hx hb dX12_trace_24 (by decide) ?_
        obtain ⟨rfl, rfl⟩ := Prod.mk.inj (Option.some.inj h)
        exact W.iret hx hb hr (R_end hB) hB.2.2.2.2 dX12_trace_28
def f_X12_image (σ : Hp) : Option (Int32 × Hp) := b2 (f_X12_all 64 66 (0 : Int32) (sI σ 40 37 (1 : Int32))) (fun r_1 s_2 => some ((hI s_2 40 0), s_2))
set_option maxHeartbeats 4000000 in
set_option maxRecDepth 100000 in
theorem c_X12_image (l : Launch) (g : tG) (P : Nat → Nat) (σ : Hp) (sz : Nat) {r : Int32} {τ : Hp} (h : f_X12_image σ = some (r, τ)) : Met l yX12_image (Cond.code yX12_image cX12_image 1 (some .int) :: tblG) ({ frames := 2, cells := 0, slots := 0, locals := 51 }) (va_Pc [.ref (gL g 40)] (tPre g P σ sz)) (tQ (some (.int r)) (tPost g P τ (va_A (wC g P σ) sz)) (va_A (wC g P σ) sz)) 0 0 (va_A (wC g P σ) sz) := by
  refine T_start (B := fun A => tPost g P τ A) (by decide) (Nat.le_of_ble_eq_true rfl) ?_
  intro p e s m args below meth c ls0 A hx hb hml hr hown hlocks ht hnm hK hZ hA hB0 hl0
  suffices hmain : ∀ (H : Heap) (locs : List Loc) (ls : Array Slot), tB g P σ A s.heap H locs → lv_has ls 1 [(0, .ref (gL g 40))] → WQ p l e { frames := 2, cells := 0, slots := 0, locals := 51 } s m args below meth c g P A (some (.int r)) τ H locs (F0 m 0 ls []) from hmain _ _ ls0 hB0 hl0
  intro H locs ls hB hl
  unfold f_X12_image at h
  refine lv_aload_n hx hb dX12_image_0 rfl (lv_at hl 0 rfl) ?_
  refine lv_iconst (v := 1) hx hb dX12_image_1 (by decide) ?_
  refine R_putI (v := (1 : Int32)) (ty := .boolean) hx hb ht ui_X12 tyX12 tyX12_ok nmX12 hown hK hB (by decide) (cell_8 rfl) rfl 37 (by decide) (ht _ tw953) (fun _ h9 => h9) rfl (by decide +kernel) rfl rfl (Nat.le_of_ble_eq_true rfl) (st8_37 rfl) dX12_image_2 (fun H locs hB => ?_)
  refine lv_aload_n hx hb dX12_image_5 rfl (lv_at hl 0 rfl) ?_
  refine lv_aload_n hx hb dX12_image_6 rfl (lv_at hl 0 rfl) ?_
  refine R_get (v := .ref (gL g 64)) hx hb ht ui_X12 hown hK hB (by decide) (cell_8 rfl) rfl 24 (by decide) (ht _ tw940) (fun _ h9 => h9) rfl dX12_image_7 ?_
  refine lv_aload_n hx hb dX12_image_10 rfl (lv_at hl 0 rfl) ?_
  refine R_get (v := .ref (gL g 66)) hx hb ht ui_X12 hown hK hB (by decide) (cell_8 rfl) rfl 26 (by decide) (ht _ tw942) (fun _ h9 => h9) rfl dX12_image_11 ?_
  refine lv_iconst (v := 0) hx hb dX12_image_14 (by decide) ?_
  replace h := b2_eq h; obtain ⟨r_1, s_2, hc_3, h⟩ := h
  refine R_call (rest := []) [] (R_runV (n := 3) (As := [.ref (gL g 64), .ref (gL g 66), .int (0 : Int32)]) ⟨hx, hb, hml, hown, ht⟩ (fun _ h9 => h9) hK hZ hA hB (c_X12_all l g P (sI σ 40 37 (1 : Int32)) 64 66 (0 : Int32) rfl rfl H.size hc_3) (R_recv hK hB (by decide) (cell_8 rfl) rfl) tw1129 tw1126 tw1128 pw35 tw5 ⟨by decide, by decide, by decide⟩ rfl rfl ⟨Nat.le_of_ble_eq_true rfl, Nat.le_of_ble_eq_true rfl⟩ rfl hl.1 rfl (Nat.le_of_ble_eq_true rfl) dX12_image_15 ⟨Nat.zero_le _, Nat.zero_le _⟩) hB hA rfl (fun H locs hB => ?_)
  refine lv_aload_n hx hb dX12_image_18 rfl (lv_at hl 0 rfl) ?_
  refine R_get (v := .int (hI s_2 40 0)) hx hb ht ui_X12 hown hK hB (by decide) (cell_8 rfl) rfl 0 (by decide) (ht _ tw916) (fun _ h9 => h9) rfl dX12_image_19 ?_
  obtain ⟨rfl, rfl⟩ := Prod.mk.inj (Option.some.inj h)
  exact W.iret hx hb hr (R_end hB) hB.2.2.2.2 dX12_image_22
def f_X12_restore_b65 (x1 : Int32) (σ1 : Hp) : Option ((Int32 × Hp) ⊕ (Int32 × Hp)) := some (.inl ((x1 + 1), σ1))
def f_X12_restore_t29 (x1 : Int32) (σ1 : Hp) : Option ((Int32 × Hp) ⊕ (Int32 × Hp)) := if (8 : Int32) ≤ x1 then ex (some ((hI σ1 40 0), σ1)) else ck (inb x1 8 = true) (if (hI σ1 50 x1.toNatClampNeg) = (2 : Int32) then if (hI σ1 53 x1.toNatClampNeg) < (hI σ1 40 0) then f_X12_restore_b65 x1 σ1 else f_X12_restore_b65 x1 (sI σ1 50 x1.toNatClampNeg (0 : Int32)) else f_X12_restore_b65 x1 σ1)
def f_X12_restore_s29 (v : (Int32 × Hp)) : Option ((Int32 × Hp) ⊕ (Int32 × Hp)) := f_X12_restore_t29 v.1 v.2
def f_X12_restore (σ : Hp) : Option (Int32 × Hp) := if (hI σ 40 37) = 0 then b2 (f_X12_no (-6 : Int32) σ) (fun r_9 s_10 => some (r_9, s_10)) else b2 (f_X12_all 64 66 (1 : Int32) σ) (fun r_2 s_3 => iter (f_X12_restore_s29) fuel ((0 : Int32), s_3))
set_option maxHeartbeats 4000000 in
set_option maxRecDepth 100000 in
theorem c_X12_restore (l : Launch) (g : tG) (P : Nat → Nat) (σ : Hp) (sz : Nat) {r : Int32} {τ : Hp} (h : f_X12_restore σ = some (r, τ)) : Met l yX12_restore (Cond.code yX12_restore cX12_restore 2 (some .int) :: tblG) ({ frames := 2, cells := 0, slots := 0, locals := 51 }) (va_Pc [.ref (gL g 40)] (tPre g P σ sz)) (tQ (some (.int r)) (tPost g P τ (va_A (wC g P σ) sz)) (va_A (wC g P σ) sz)) 0 0 (va_A (wC g P σ) sz) := by
  refine T_start (B := fun A => tPost g P τ A) (by decide) (Nat.le_of_ble_eq_true rfl) ?_
  intro p e s m args below meth c ls0 A hx hb hml hr hown hlocks ht hnm hK hZ hA hB0 hl0
  have hL_29 : ∀ (n : Nat) (x1 : Int32) (σ1 : Hp) (H : Heap) (locs : List Loc) (ls : Array Slot), iter (f_X12_restore_s29) n (x1, σ1) = some (r, τ) → tB g P σ1 A s.heap H locs → lv_has ls 2 [(0, .ref (gL g 40)), (1, .int x1)] → WQ p l e { frames := 2, cells := 0, slots := 0, locals := 51 } s m args below meth c g P A (some (.int r)) τ H locs (F0 m 29 ls []) := by
    intro n
    induction n with
    | zero =>
      intro x1 σ1 H locs ls h hB hl
      exact (iter_0 h).elim
    | succ n ih1 =>
      intro x1 σ1 H locs ls h hB hl
      replace h := iter_eq h; obtain ⟨z1, hh1, hx1⟩ := h
      have hb_65 : ∀ (x1 : Int32) (σ1 : Hp) (H : Heap) (locs : List Loc) (ls : Array Slot), f_X12_restore_b65 x1 σ1 = some z1 → tB g P σ1 A s.heap H locs → lv_has ls 2 [(0, .ref (gL g 40)), (1, .int x1)] → WQ p l e { frames := 2, cells := 0, slots := 0, locals := 51 } s m args below meth c g P A (some (.int r)) τ H locs (F0 m 65 ls []) := by
        intro x1 σ1 H locs ls h hB hl
        unfold f_X12_restore_b65 at h
        refine lv_iinc (v := x1 + 1) (lv' := [(1, .int (x1 + 1)), (0, .ref (gL g 40))]) hx hb dX12_restore_65 hl (k := 1) rfl rfl (by decide) rfl (fun ls hl => ?_)
        refine lv_goto (tgt := 29) hx hb dX12_restore_68 (by decide) ?_
        obtain rfl := Option.some.inj h
        exact ih1 (x1 + 1) σ1 H locs ls hx1 hB (lv_sub hl [1, 0] rfl)
      have h : f_X12_restore_t29 x1 σ1 = some z1 := hh1
      clear hh1
      unfold f_X12_restore_t29 at h
      refine lv_iload_n hx hb dX12_restore_29 rfl (lv_at hl 1 rfl) ?_
      refine lv_bipush (v := 8) hx hb dX12_restore_30 (by decide) ?_
      refine lv_icmp_ge (tgt := 71) hx hb dX12_restore_32 (by decide) (fun c_5 => ?_) (fun c_5 => ?_)
      · replace h := itp h c_5
        replace h := ex_eq h; obtain ⟨b1, h, hz1⟩ := h
        subst hz1
        have hz1 := (itk_inr hx1).symm
        subst hz1
        refine lv_aload_n hx hb dX12_restore_71 rfl (lv_at hl 0 rfl) ?_
        refine R_get (v := .int (hI σ1 40 0)) hx hb ht ui_X12 hown hK hB (by decide) (cell_8 rfl) rfl 0 (by decide) (ht _ tw916) (fun _ h9 => h9) rfl dX12_restore_72 ?_
        obtain ⟨rfl, rfl⟩ := Prod.mk.inj (Option.some.inj h)
        exact W.iret hx hb hr (R_end hB) hB.2.2.2.2 dX12_restore_75
      · replace h := itn h c_5
        refine lv_aload_n hx hb dX12_restore_35 rfl (lv_at hl 0 rfl) ?_
        refine R_get (v := .ref (gL g 50)) hx hb ht ui_X12 hown hK hB (by decide) (cell_8 rfl) rfl 10 (by decide) (ht _ tw926) (fun _ h9 => h9) rfl dX12_restore_36 ?_
        refine lv_iload_n hx hb dX12_restore_39 rfl (lv_at hl 1 rfl) ?_
        replace h := ck_eq h; obtain ⟨q_6, h⟩ := h
        refine R_iald hx hb hK hB rfl (inb_eq q_6) dX12_restore_40 ?_
        refine lv_iconst (v := 2) hx hb dX12_restore_41 (by decide) ?_
        refine lv_icmp_ne (tgt := 65) hx hb dX12_restore_42 (by decide) (fun c_7 => ?_) (fun c_7 => ?_)
        · replace h := itn h c_7
          exact hb_65 x1 σ1 H locs ls h hB (lv_sub hl [0, 1] rfl)
        · replace h := itp h c_7
          refine lv_aload_n hx hb dX12_restore_45 rfl (lv_at hl 0 rfl) ?_
          refine R_get (v := .ref (gL g 53)) hx hb ht ui_X12 hown hK hB (by decide) (cell_8 rfl) rfl 13 (by decide) (ht _ tw929) (fun _ h9 => h9) rfl dX12_restore_46 ?_
          refine lv_iload_n hx hb dX12_restore_49 rfl (lv_at hl 1 rfl) ?_
          refine R_iald hx hb hK hB rfl (inb_eq q_6) dX12_restore_50 ?_
          refine lv_aload_n hx hb dX12_restore_51 rfl (lv_at hl 0 rfl) ?_
          refine R_get (v := .int (hI σ1 40 0)) hx hb ht ui_X12 hown hK hB (by decide) (cell_8 rfl) rfl 0 (by decide) (ht _ tw916) (fun _ h9 => h9) rfl dX12_restore_52 ?_
          refine lv_icmp_lt (tgt := 65) hx hb dX12_restore_55 (by decide) (fun c_8 => ?_) (fun c_8 => ?_)
          · replace h := itp h c_8
            exact hb_65 x1 σ1 H locs ls h hB (lv_sub hl [0, 1] rfl)
          · replace h := itn h c_8
            refine lv_aload_n hx hb dX12_restore_58 rfl (lv_at hl 0 rfl) ?_
            refine R_get (v := .ref (gL g 50)) hx hb ht ui_X12 hown hK hB (by decide) (cell_8 rfl) rfl 10 (by decide) (ht _ tw926) (fun _ h9 => h9) rfl dX12_restore_59 ?_
            refine lv_iload_n hx hb dX12_restore_62 rfl (lv_at hl 1 rfl) ?_
            refine lv_iconst (v := 0) hx hb dX12_restore_63 (by decide) ?_
            refine R_iast hx hb hK hB rfl (inb_eq q_6) dX12_restore_64 (fun H locs hB => ?_)
            exact hb_65 x1 (sI σ1 50 x1.toNatClampNeg (0 : Int32)) H locs ls h hB (lv_sub hl [0, 1] rfl)
  suffices hmain : ∀ (H : Heap) (locs : List Loc) (ls : Array Slot), tB g P σ A s.heap H locs → lv_has ls 2 [(0, .ref (gL g 40))] → WQ p l e { frames := 2, cells := 0, slots := 0, locals := 51 } s m args below meth c g P A (some (.int r)) τ H locs (F0 m 0 ls []) from hmain _ _ ls0 hB0 hl0
  intro H locs ls hB hl
  unfold f_X12_restore at h
  refine lv_aload_n hx hb dX12_restore_0 rfl (lv_at hl 0 rfl) ?_
  refine R_get (v := .int (hI σ 40 37)) hx hb ht ui_X12 hown hK hB (by decide) (cell_8 rfl) rfl 37 (by decide) (ht _ tw953) (fun _ h9 => h9) rfl dX12_restore_1 ?_
  refine lv_if_ne (tgt := 14) hx hb dX12_restore_4 (by decide) (fun c_1 => ?_) (fun c_1 => ?_)
  · replace h := itn h c_1
    refine lv_aload_n hx hb dX12_restore_14 rfl (lv_at hl 0 rfl) ?_
    refine lv_aload_n hx hb dX12_restore_15 rfl (lv_at hl 0 rfl) ?_
    refine R_get (v := .ref (gL g 64)) hx hb ht ui_X12 hown hK hB (by decide) (cell_8 rfl) rfl 24 (by decide) (ht _ tw940) (fun _ h9 => h9) rfl dX12_restore_16 ?_
    refine lv_aload_n hx hb dX12_restore_19 rfl (lv_at hl 0 rfl) ?_
    refine R_get (v := .ref (gL g 66)) hx hb ht ui_X12 hown hK hB (by decide) (cell_8 rfl) rfl 26 (by decide) (ht _ tw942) (fun _ h9 => h9) rfl dX12_restore_20 ?_
    refine lv_iconst (v := 1) hx hb dX12_restore_23 (by decide) ?_
    replace h := b2_eq h; obtain ⟨r_2, s_3, hc_4, h⟩ := h
    refine R_call (rest := []) [] (R_runV (n := 3) (As := [.ref (gL g 64), .ref (gL g 66), .int (1 : Int32)]) ⟨hx, hb, hml, hown, ht⟩ (fun _ h9 => h9) hK hZ hA hB (c_X12_all l g P σ 64 66 (1 : Int32) rfl rfl H.size hc_4) (R_recv hK hB (by decide) (cell_8 rfl) rfl) tw1129 tw1126 tw1128 pw35 tw5 ⟨by decide, by decide, by decide⟩ rfl rfl ⟨Nat.le_of_ble_eq_true rfl, Nat.le_of_ble_eq_true rfl⟩ rfl hl.1 rfl (Nat.le_of_ble_eq_true rfl) dX12_restore_24 ⟨Nat.zero_le _, Nat.zero_le _⟩) hB hA rfl (fun H locs hB => ?_)
    refine lv_iconst (v := 0) hx hb dX12_restore_27 (by decide) ?_
    refine lv_istore_n (lv' := [(1, .int (0 : Int32)), (0, .ref (gL g 40))]) hx hb dX12_restore_28 rfl hl (by decide) rfl (fun ls hl => ?_)
    exact hL_29 fuel (0 : Int32) s_3 H locs ls h hB (lv_sub hl [1, 0] rfl)
  · replace h := itp h c_1
    refine lv_aload_n hx hb dX12_restore_7 rfl (lv_at hl 0 rfl) ?_
    refine lv_bipush (v := -6) hx hb dX12_restore_8 (by decide) ?_
    replace h := b2_eq h; obtain ⟨r_9, s_10, hc_11, h⟩ := h
    refine R_call (rest := []) [.int r_9] (R_runV (n := 1) (As := [.int (-6 : Int32)]) ⟨hx, hb, hml, hown, ht⟩ (fun _ h9 => h9) hK hZ hA hB (c_X12_no l g P σ (-6 : Int32) H.size hc_11) (R_recv hK hB (by decide) (cell_8 rfl) rfl) tw1042 tw1039 tw1041 pw26 tw5 ⟨by decide, by decide, by decide⟩ rfl rfl ⟨Nat.le_of_ble_eq_true rfl, Nat.le_of_ble_eq_true rfl⟩ rfl hl.1 rfl (Nat.le_of_ble_eq_true rfl) dX12_restore_10 ⟨Nat.zero_le _, Nat.zero_le _⟩) hB hA rfl (fun H locs hB => ?_)
    obtain ⟨rfl, rfl⟩ := Prod.mk.inj (Option.some.inj h)
    exact W.iret hx hb hr (R_end hB) hB.2.2.2.2 dX12_restore_13
def f_X12_status_b22 (x1 : Int32) (σ1 : Hp) : Option (Int32 × Hp) := if x1 = 0 then some ((hI σ1 40 0), σ1) else (if x1 = 1 then some ((hI σ1 40 1), σ1) else (if x1 = 2 then some ((hI σ1 40 2), σ1) else (if x1 = 3 then some ((hI σ1 40 3), σ1) else (if x1 = 4 then some ((hI σ1 40 36), σ1) else (some ((-1 : Int32), σ1))))))
def f_X12_status (a1 : Int32) (σ : Hp) : Option (Int32 × Hp) := if a1 < (11 : Int32) then f_X12_status_b22 a1 σ else if (17 : Int32) < a1 then f_X12_status_b22 a1 σ else ck (inb (a1 - (10 : Int32)) 8 = true) (some ((hI σ 45 (a1 - (10 : Int32)).toNatClampNeg), σ))
set_option maxHeartbeats 4000000 in
set_option maxRecDepth 100000 in
theorem c_X12_status (l : Launch) (g : tG) (P : Nat → Nat) (σ : Hp) (a1 : Int32) (sz : Nat) {r : Int32} {τ : Hp} (h : f_X12_status a1 σ = some (r, τ)) : Met l yX12_status (Cond.code yX12_status cX12_status 2 (some .int) :: tblG) ({ frames := 0, cells := 0, slots := 0, locals := 0 }) (va_Pc [.ref (gL g 40), .int a1] (tPre g P σ sz)) (tQ (some (.int r)) (tPost g P τ (va_A (wC g P σ) sz)) (va_A (wC g P σ) sz)) 0 0 (va_A (wC g P σ) sz) := by
  refine T_start (B := fun A => tPost g P τ A) (by decide) (Nat.le_of_ble_eq_true rfl) ?_
  intro p e s m args below meth c ls0 A hx hb hml hr hown hlocks ht hnm hK hZ hA hB0 hl0
  have hb_22 : ∀ (x1 : Int32) (σ1 : Hp) (H : Heap) (locs : List Loc) (ls : Array Slot), f_X12_status_b22 x1 σ1 = some (r, τ) → tB g P σ1 A s.heap H locs → lv_has ls 2 [(0, .ref (gL g 40)), (1, .int x1)] → WQ p l e { frames := 0, cells := 0, slots := 0, locals := 0 } s m args below meth c g P A (some (.int r)) τ H locs (F0 m 22 ls []) := by
    intro x1 σ1 H locs ls h hB hl
    unfold f_X12_status_b22 at h
    refine lv_iload_n hx hb dX12_status_22 rfl (lv_at hl 1 rfl) ?_
    by_cases c_2 : x1 = 0
    · replace h := itp h c_2
      refine lv_tableIn (tgt := 56) hx hb dX12_status_23 (by rw [c_2]; decide) (by rw [c_2]; decide) (by rw [c_2]; rfl) (by decide) ?_
      refine lv_aload_n hx hb dX12_status_56 rfl (lv_at hl 0 rfl) ?_
      refine R_get (v := .int (hI σ1 40 0)) hx hb ht ui_X12 hown hK hB (by decide) (cell_8 rfl) rfl 0 (by decide) (ht _ tw916) (fun _ h9 => h9) rfl dX12_status_57 ?_
      obtain ⟨rfl, rfl⟩ := Prod.mk.inj (Option.some.inj h)
      exact W.iret hx hb hr (R_end hB) hB.2.2.2.2 dX12_status_60
    · replace h := itn h c_2
      by_cases c_3 : x1 = 1
      · replace h := itp h c_3
        refine lv_tableIn (tgt := 61) hx hb dX12_status_23 (by rw [c_3]; decide) (by rw [c_3]; decide) (by rw [c_3]; rfl) (by decide) ?_
        refine lv_aload_n hx hb dX12_status_61 rfl (lv_at hl 0 rfl) ?_
        refine R_get (v := .int (hI σ1 40 1)) hx hb ht ui_X12 hown hK hB (by decide) (cell_8 rfl) rfl 1 (by decide) (ht _ tw917) (fun _ h9 => h9) rfl dX12_status_62 ?_
        obtain ⟨rfl, rfl⟩ := Prod.mk.inj (Option.some.inj h)
        exact W.iret hx hb hr (R_end hB) hB.2.2.2.2 dX12_status_65
      · replace h := itn h c_3
        by_cases c_4 : x1 = 2
        · replace h := itp h c_4
          refine lv_tableIn (tgt := 66) hx hb dX12_status_23 (by rw [c_4]; decide) (by rw [c_4]; decide) (by rw [c_4]; rfl) (by decide) ?_
          refine lv_aload_n hx hb dX12_status_66 rfl (lv_at hl 0 rfl) ?_
          refine R_get (v := .int (hI σ1 40 2)) hx hb ht ui_X12 hown hK hB (by decide) (cell_8 rfl) rfl 2 (by decide) (ht _ tw918) (fun _ h9 => h9) rfl dX12_status_67 ?_
          obtain ⟨rfl, rfl⟩ := Prod.mk.inj (Option.some.inj h)
          exact W.iret hx hb hr (R_end hB) hB.2.2.2.2 dX12_status_70
        · replace h := itn h c_4
          by_cases c_5 : x1 = 3
          · replace h := itp h c_5
            refine lv_tableIn (tgt := 71) hx hb dX12_status_23 (by rw [c_5]; decide) (by rw [c_5]; decide) (by rw [c_5]; rfl) (by decide) ?_
            refine lv_aload_n hx hb dX12_status_71 rfl (lv_at hl 0 rfl) ?_
            refine R_get (v := .int (hI σ1 40 3)) hx hb ht ui_X12 hown hK hB (by decide) (cell_8 rfl) rfl 3 (by decide) (ht _ tw919) (fun _ h9 => h9) rfl dX12_status_72 ?_
            obtain ⟨rfl, rfl⟩ := Prod.mk.inj (Option.some.inj h)
            exact W.iret hx hb hr (R_end hB) hB.2.2.2.2 dX12_status_75
          · replace h := itn h c_5
            by_cases c_6 : x1 = 4
            · replace h := itp h c_6
              refine lv_tableIn (tgt := 76) hx hb dX12_status_23 (by rw [c_6]; decide) (by rw [c_6]; decide) (by rw [c_6]; rfl) (by decide) ?_
              refine lv_aload_n hx hb dX12_status_76 rfl (lv_at hl 0 rfl) ?_
              refine R_get (v := .int (hI σ1 40 36)) hx hb ht ui_X12 hown hK hB (by decide) (cell_8 rfl) rfl 36 (by decide) (ht _ tw952) (fun _ h9 => h9) rfl dX12_status_77 ?_
              obtain ⟨rfl, rfl⟩ := Prod.mk.inj (Option.some.inj h)
              exact W.iret hx hb hr (R_end hB) hB.2.2.2.2 dX12_status_80
            · replace h := itn h c_6
              refine lv_tableOut (tgt := 81) hx hb dX12_status_23 (sw_out (lo := 0) (hi := 4) (by decide) (by decide) (fun k h1 h2 => by rcases (show k = 0 ∨ k = 1 ∨ k = 2 ∨ k = 3 ∨ k = 4 by omega) with rfl | rfl | rfl | rfl | rfl <;> assumption)) (by decide) ?_
              refine lv_iconst (v := -1) hx hb dX12_status_81 (by decide) ?_
              obtain ⟨rfl, rfl⟩ := Prod.mk.inj (Option.some.inj h)
              exact W.iret hx hb hr (R_end hB) hB.2.2.2.2 dX12_status_82
  suffices hmain : ∀ (H : Heap) (locs : List Loc) (ls : Array Slot), tB g P σ A s.heap H locs → lv_has ls 2 [(0, .ref (gL g 40)), (1, .int a1)] → WQ p l e { frames := 0, cells := 0, slots := 0, locals := 0 } s m args below meth c g P A (some (.int r)) τ H locs (F0 m 0 ls []) from hmain _ _ ls0 hB0 hl0
  intro H locs ls hB hl
  unfold f_X12_status at h
  refine lv_iload_n hx hb dX12_status_0 rfl (lv_at hl 1 rfl) ?_
  refine lv_bipush (v := 11) hx hb dX12_status_1 (by decide) ?_
  refine lv_icmp_lt (tgt := 22) hx hb dX12_status_3 (by decide) (fun c_1 => ?_) (fun c_1 => ?_)
  · replace h := itp h c_1
    exact hb_22 a1 σ H locs ls h hB (lv_sub hl [0, 1] rfl)
  · replace h := itn h c_1
    refine lv_iload_n hx hb dX12_status_6 rfl (lv_at hl 1 rfl) ?_
    refine lv_bipush (v := 17) hx hb dX12_status_7 (by decide) ?_
    refine lv_icmp_gt (tgt := 22) hx hb dX12_status_9 (by decide) (fun c_7 => ?_) (fun c_7 => ?_)
    · replace h := itp h c_7
      exact hb_22 a1 σ H locs ls h hB (lv_sub hl [0, 1] rfl)
    · replace h := itn h c_7
      refine lv_aload_n hx hb dX12_status_12 rfl (lv_at hl 0 rfl) ?_
      refine R_get (v := .ref (gL g 45)) hx hb ht ui_X12 hown hK hB (by decide) (cell_8 rfl) rfl 5 (by decide) (ht _ tw921) (fun _ h9 => h9) rfl dX12_status_13 ?_
      refine lv_iload_n hx hb dX12_status_16 rfl (lv_at hl 1 rfl) ?_
      refine lv_bipush (v := 10) hx hb dX12_status_17 (by decide) ?_
      refine lv_isub hx hb dX12_status_19 ?_
      replace h := ck_eq h; obtain ⟨q_8, h⟩ := h
      refine R_iald hx hb hK hB rfl (inb_eq q_8) dX12_status_20 ?_
      obtain ⟨rfl, rfl⟩ := Prod.mk.inj (Option.some.inj h)
      exact W.iret hx hb hr (R_end hB) hB.2.2.2.2 dX12_status_21
