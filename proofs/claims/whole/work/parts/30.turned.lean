def f_X11_shelfAt (a1 : Int32) (σ : Hp) : Option (Option Nat × Hp) := if a1 < 0 then some (none, σ) else if (8 : Int32) ≤ a1 then some (none, σ) else ck (inb a1 8 = true) (ck (ky (14 + a1.toNatClampNeg) = 6) (some (some (14 + a1.toNatClampNeg), σ)))
set_option maxHeartbeats 4000000 in
set_option maxRecDepth 100000 in
theorem c_X11_shelfAt (l : Launch) (g : tG) (P : Nat → Nat) (σ : Hp) (a1 : Int32) (sz : Nat) {r : Option Nat} {τ : Hp} (h : f_X11_shelfAt a1 σ = some (r, τ)) : Met l yX11_shelfAt (Cond.code yX11_shelfAt cX11_shelfAt 2 (some (.object "TurnedAbout$Shelf")) :: tblG) ({ frames := 0, cells := 0, slots := 0, locals := 0 }) (va_Pc [.ref (gL g 0), .int a1] (tPre g P σ sz)) (tQ (some (va_rf (Option.map (gL g) r))) (tPost g P τ (va_A (wC g P σ) sz)) (va_A (wC g P σ) sz)) 0 0 (va_A (wC g P σ) sz) := by
  refine T_start (B := fun A => tPost g P τ A) (by decide) (Nat.le_of_ble_eq_true rfl) ?_
  intro p e s m args below meth c ls0 A hx hb hml hr hown hlocks ht hnm hK hZ hA hB0 hl0
  suffices hmain : ∀ (H : Heap) (locs : List Loc) (ls : Array Slot), tB g P σ A s.heap H locs → lv_has ls 2 [(0, .ref (gL g 0)), (1, .int a1)] → WQ p l e { frames := 0, cells := 0, slots := 0, locals := 0 } s m args below meth c g P A (some (va_rf (Option.map (gL g) r))) τ H locs (F0 m 0 ls []) from hmain _ _ ls0 hB0 hl0
  intro H locs ls hB hl
  unfold f_X11_shelfAt at h
  refine lv_iload_n hx hb dX11_shelfAt_0 rfl (lv_at hl 1 rfl) ?_
  refine lv_if_lt (tgt := 22) hx hb dX11_shelfAt_1 (by decide) (fun c_1 => ?_) (fun c_1 => ?_)
  · replace h := itp h c_1
    refine lv_null hx hb dX11_shelfAt_22 ?_
    obtain ⟨rfl, rfl⟩ := Prod.mk.inj (Option.some.inj h)
    exact W.aret hx hb hr (Or.inl ⟨_, rfl⟩) (va_rf_or _) (R_end hB) hB.2.2.2.2 dX11_shelfAt_23
  · replace h := itn h c_1
    refine lv_iload_n hx hb dX11_shelfAt_4 rfl (lv_at hl 1 rfl) ?_
    refine lv_aload_n hx hb dX11_shelfAt_5 rfl (lv_at hl 0 rfl) ?_
    refine R_get (v := .ref (gL g 13)) hx hb ht ui_X11 hown hK hB (by decide) (cell_0 rfl) rfl 3 (by decide) (ht _ tw133) (fun _ h9 => h9) rfl dX11_shelfAt_6 ?_
    refine R_alenS hx hb (v := (8 : Int32)) hK hB rfl rfl dX11_shelfAt_9 ?_
    refine lv_icmp_ge (tgt := 22) hx hb dX11_shelfAt_10 (by decide) (fun c_2 => ?_) (fun c_2 => ?_)
    · replace h := itp h c_2
      refine lv_null hx hb dX11_shelfAt_22 ?_
      obtain ⟨rfl, rfl⟩ := Prod.mk.inj (Option.some.inj h)
      exact W.aret hx hb hr (Or.inl ⟨_, rfl⟩) (va_rf_or _) (R_end hB) hB.2.2.2.2 dX11_shelfAt_23
    · replace h := itn h c_2
      refine lv_aload_n hx hb dX11_shelfAt_13 rfl (lv_at hl 0 rfl) ?_
      refine R_get (v := .ref (gL g 13)) hx hb ht ui_X11 hown hK hB (by decide) (cell_0 rfl) rfl 3 (by decide) (ht _ tw133) (fun _ h9 => h9) rfl dX11_shelfAt_14 ?_
      refine lv_iload_n hx hb dX11_shelfAt_17 rfl (lv_at hl 1 rfl) ?_
      replace h := ck_eq h; obtain ⟨q_3, h⟩ := h
      refine R_aaldS hx hb hK hB rfl (inb_eq q_3) dX11_shelfAt_18 ?_
      replace h := ck_eq h; obtain ⟨q_4, h⟩ := h
      refine lv_goto (tgt := 23) hx hb dX11_shelfAt_19 (by decide) ?_
      obtain ⟨rfl, rfl⟩ := Prod.mk.inj (Option.some.inj h)
      exact W.aret hx hb hr (Or.inl ⟨_, rfl⟩) (va_rf_or _) (R_end hB) hB.2.2.2.2 dX11_shelfAt_23
def f_X11_refuse (a1 : Int32) (σ : Hp) : Option (Int32 × Hp) := if ((-a1) - (1 : Int32)) < 0 then some (a1, σ) else if (7 : Int32) ≤ ((-a1) - (1 : Int32)) then some (a1, σ) else ck (inb ((-a1) - (1 : Int32)) 7 = true) (some (a1, (sI σ 30 ((-a1) - (1 : Int32)).toNatClampNeg ((hI σ 30 ((-a1) - (1 : Int32)).toNatClampNeg) + (1 : Int32)))))
set_option maxHeartbeats 4000000 in
set_option maxRecDepth 100000 in
theorem c_X11_refuse (l : Launch) (g : tG) (P : Nat → Nat) (σ : Hp) (a1 : Int32) (sz : Nat) {r : Int32} {τ : Hp} (h : f_X11_refuse a1 σ = some (r, τ)) : Met l yX11_refuse (Cond.code yX11_refuse cX11_refuse 3 (some .int) :: tblG) ({ frames := 0, cells := 0, slots := 0, locals := 0 }) (va_Pc [.ref (gL g 0), .int a1] (tPre g P σ sz)) (tQ (some (.int r)) (tPost g P τ (va_A (wC g P σ) sz)) (va_A (wC g P σ) sz)) 0 0 (va_A (wC g P σ) sz) := by
  refine T_start (B := fun A => tPost g P τ A) (by decide) (Nat.le_of_ble_eq_true rfl) ?_
  intro p e s m args below meth c ls0 A hx hb hml hr hown hlocks ht hnm hK hZ hA hB0 hl0
  suffices hmain : ∀ (H : Heap) (locs : List Loc) (ls : Array Slot), tB g P σ A s.heap H locs → lv_has ls 3 [(0, .ref (gL g 0)), (1, .int a1)] → WQ p l e { frames := 0, cells := 0, slots := 0, locals := 0 } s m args below meth c g P A (some (.int r)) τ H locs (F0 m 0 ls []) from hmain _ _ ls0 hB0 hl0
  intro H locs ls hB hl
  unfold f_X11_refuse at h
  refine lv_iload_n hx hb dX11_refuse_0 rfl (lv_at hl 1 rfl) ?_
  refine lv_ineg hx hb dX11_refuse_1 ?_
  refine lv_iconst (v := 1) hx hb dX11_refuse_2 (by decide) ?_
  refine lv_isub hx hb dX11_refuse_3 ?_
  refine lv_istore_n (lv' := [(2, .int ((-a1) - (1 : Int32))), (0, .ref (gL g 0)), (1, .int a1)]) hx hb dX11_refuse_4 rfl hl (by decide) rfl (fun ls hl => ?_)
  refine lv_iload_n hx hb dX11_refuse_5 rfl (lv_at hl 0 rfl) ?_
  refine lv_if_lt (tgt := 28) hx hb dX11_refuse_6 (by decide) (fun c_1 => ?_) (fun c_1 => ?_)
  · replace h := itp h c_1
    refine lv_iload_n hx hb dX11_refuse_28 rfl (lv_at hl 2 rfl) ?_
    obtain ⟨rfl, rfl⟩ := Prod.mk.inj (Option.some.inj h)
    exact W.iret hx hb hr (R_end hB) hB.2.2.2.2 dX11_refuse_29
  · replace h := itn h c_1
    refine lv_iload_n hx hb dX11_refuse_9 rfl (lv_at hl 0 rfl) ?_
    refine lv_aload_n hx hb dX11_refuse_10 rfl (lv_at hl 1 rfl) ?_
    refine R_get (v := .ref (gL g 30)) hx hb ht ui_X11 hown hK hB (by decide) (cell_0 rfl) rfl 4 (by decide) (ht _ tw134) (fun _ h9 => h9) rfl dX11_refuse_11 ?_
    refine R_alenI hx hb (v := (7 : Int32)) hK hB rfl rfl dX11_refuse_14 ?_
    refine lv_icmp_ge (tgt := 28) hx hb dX11_refuse_15 (by decide) (fun c_2 => ?_) (fun c_2 => ?_)
    · replace h := itp h c_2
      refine lv_iload_n hx hb dX11_refuse_28 rfl (lv_at hl 2 rfl) ?_
      obtain ⟨rfl, rfl⟩ := Prod.mk.inj (Option.some.inj h)
      exact W.iret hx hb hr (R_end hB) hB.2.2.2.2 dX11_refuse_29
    · replace h := itn h c_2
      refine lv_aload_n hx hb dX11_refuse_18 rfl (lv_at hl 1 rfl) ?_
      refine R_get (v := .ref (gL g 30)) hx hb ht ui_X11 hown hK hB (by decide) (cell_0 rfl) rfl 4 (by decide) (ht _ tw134) (fun _ h9 => h9) rfl dX11_refuse_19 ?_
      refine lv_iload_n hx hb dX11_refuse_22 rfl (lv_at hl 0 rfl) ?_
      refine lv_dup2_11 hx hb dX11_refuse_23 rfl rfl ?_
      replace h := ck_eq h; obtain ⟨q_3, h⟩ := h
      refine R_iald hx hb hK hB rfl (inb_eq q_3) dX11_refuse_24 ?_
      refine lv_iconst (v := 1) hx hb dX11_refuse_25 (by decide) ?_
      refine lv_iadd hx hb dX11_refuse_26 ?_
      refine R_iast hx hb hK hB rfl (inb_eq q_3) dX11_refuse_27 (fun H locs hB => ?_)
      refine lv_iload_n hx hb dX11_refuse_28 rfl (lv_at hl 2 rfl) ?_
      obtain ⟨rfl, rfl⟩ := Prod.mk.inj (Option.some.inj h)
      exact W.iret hx hb hr (R_end hB) hB.2.2.2.2 dX11_refuse_29
def f_X11_row_b38 (σ1 : Hp) : Option (Int32 × Hp) := b2 (f_X11_refuse (-6 : Int32) σ1) (fun r_11 s_12 => some (r_11, s_12))
def f_X11_row (a1 : Int32) (a2 : Int32) (a3 : Int32) (σ : Hp) : Option (Int32 × Hp) := b2 (f_X11_shelfAt a1 σ) (fun r_1 s_2 => cs r_1 (b2 (f_X11_refuse (-1 : Int32) s_2) (fun r_6 s_7 => some (r_6, s_7))) (fun y_4 => ck (ky y_4 = 6) (if 0 ≤ a3 then if a2 < 0 then f_X11_row_b38 s_2 else if a2 ≤ (3 : Int32) then if a3 ≤ (160 : Int32) then b2 (f_X5_holdRow y_4 a2 a3 s_2) (fun r_16 s_17 => some ((1 : Int32), s_17)) else b2 (f_X11_refuse (-7 : Int32) s_2) (fun r_19 s_20 => some (r_19, s_20)) else f_X11_row_b38 s_2 else b2 (f_X11_refuse (-4 : Int32) s_2) (fun r_22 s_23 => some (r_22, s_23)))))
set_option maxHeartbeats 4000000 in
set_option maxRecDepth 100000 in
theorem c_X11_row (l : Launch) (g : tG) (P : Nat → Nat) (σ : Hp) (a1 : Int32) (a2 : Int32) (a3 : Int32) (sz : Nat) {r : Int32} {τ : Hp} (h : f_X11_row a1 a2 a3 σ = some (r, τ)) : Met l yX11_row (Cond.code yX11_row cX11_row 5 (some .int) :: tblG) ({ frames := 2, cells := 0, slots := 0, locals := 46 }) (va_Pc [.ref (gL g 0), .int a1, .int a2, .int a3] (tPre g P σ sz)) (tQ (some (.int r)) (tPost g P τ (va_A (wC g P σ) sz)) (va_A (wC g P σ) sz)) 0 0 (va_A (wC g P σ) sz) := by
  refine T_start (B := fun A => tPost g P τ A) (by decide) (Nat.le_of_ble_eq_true rfl) ?_
  intro p e s m args below meth c ls0 A hx hb hml hr hown hlocks ht hnm hK hZ hA hB0 hl0
  have hb_38 : ∀ (σ1 : Hp) (H : Heap) (locs : List Loc) (ls : Array Slot), f_X11_row_b38 σ1 = some (r, τ) → tB g P σ1 A s.heap H locs → lv_has ls 5 [(0, .ref (gL g 0))] → WQ p l e { frames := 2, cells := 0, slots := 0, locals := 46 } s m args below meth c g P A (some (.int r)) τ H locs (F0 m 38 ls []) := by
    intro σ1 H locs ls h hB hl
    unfold f_X11_row_b38 at h
    refine lv_aload_n hx hb dX11_row_38 rfl (lv_at hl 0 rfl) ?_
    refine lv_bipush (v := -6) hx hb dX11_row_39 (by decide) ?_
    replace h := b2_eq h; obtain ⟨r_11, s_12, hc_13, h⟩ := h
    refine R_call (rest := []) [.int r_11] (R_runV (n := 1) (As := [.int (-6 : Int32)]) ⟨hx, hb, hml, hown, ht⟩ (fun _ h9 => h9) hK hZ hA hB (c_X11_refuse l g P σ1 (-6 : Int32) H.size hc_13) (R_recv hK hB (by decide) (cell_0 rfl) rfl) tw178 tw175 tw177 pw1 tw1 ⟨by decide, by decide, by decide⟩ rfl rfl ⟨Nat.le_of_ble_eq_true rfl, Nat.le_of_ble_eq_true rfl⟩ rfl hl.1 rfl (Nat.le_of_ble_eq_true rfl) dX11_row_41 ⟨Nat.zero_le _, Nat.zero_le _⟩) hB hA rfl (fun H locs hB => ?_)
    obtain ⟨rfl, rfl⟩ := Prod.mk.inj (Option.some.inj h)
    exact W.iret hx hb hr (R_end hB) hB.2.2.2.2 dX11_row_44
  suffices hmain : ∀ (H : Heap) (locs : List Loc) (ls : Array Slot), tB g P σ A s.heap H locs → lv_has ls 5 [(0, .ref (gL g 0)), (1, .int a1), (2, .int a2), (3, .int a3)] → WQ p l e { frames := 2, cells := 0, slots := 0, locals := 46 } s m args below meth c g P A (some (.int r)) τ H locs (F0 m 0 ls []) from hmain _ _ ls0 hB0 hl0
  intro H locs ls hB hl
  unfold f_X11_row at h
  refine lv_aload_n hx hb dX11_row_0 rfl (lv_at hl 0 rfl) ?_
  refine lv_iload_n hx hb dX11_row_1 rfl (lv_at hl 1 rfl) ?_
  replace h := b2_eq h; obtain ⟨r_1, s_2, hc_3, h⟩ := h
  refine R_call (rest := []) [va_rf (Option.map (gL g) r_1)] (R_runV (n := 1) (As := [.int a1]) ⟨hx, hb, hml, hown, ht⟩ (fun _ h9 => h9) hK hZ hA hB (c_X11_shelfAt l g P σ a1 H.size hc_3) (R_recv hK hB (by decide) (cell_0 rfl) rfl) tw174 tw171 tw173 pw0 tw1 ⟨by decide, by decide, by decide⟩ rfl rfl ⟨Nat.le_of_ble_eq_true rfl, Nat.le_of_ble_eq_true rfl⟩ rfl hl.1 rfl (Nat.le_of_ble_eq_true rfl) dX11_row_2 ⟨Nat.zero_le _, Nat.zero_le _⟩) hB hA rfl (fun H locs hB => ?_)
  refine lv_astoreR (lv' := [(4, va_rf (Option.map (gL g) r_1)), (0, .ref (gL g 0)), (1, .int a1), (2, .int a2), (3, .int a3)]) hx hb dX11_row_5 hl (by decide) rfl (fun ls hl => ?_)
  refine lv_aloadR hx hb dX11_row_7 (lv_at hl 0 rfl) ?_
  rcases r_1 with _ | y_4
  · replace h := cs_n h
    have hl : lv_has ls 5 [(4, .null), (0, .ref (gL g 0)), (1, .int a1), (2, .int a2), (3, .int a3)] := hl
    refine lv_ifnonnullN hx hb dX11_row_9 ?_
    refine lv_aload_n hx hb dX11_row_12 rfl (lv_at hl 1 rfl) ?_
    refine lv_iconst (v := -1) hx hb dX11_row_13 (by decide) ?_
    replace h := b2_eq h; obtain ⟨r_6, s_7, hc_8, h⟩ := h
    refine R_call (rest := []) [.int r_6] (R_runV (n := 1) (As := [.int (-1 : Int32)]) ⟨hx, hb, hml, hown, ht⟩ (fun _ h9 => h9) hK hZ hA hB (c_X11_refuse l g P s_2 (-1 : Int32) H.size hc_8) (R_recv hK hB (by decide) (cell_0 rfl) rfl) tw178 tw175 tw177 pw1 tw1 ⟨by decide, by decide, by decide⟩ rfl rfl ⟨Nat.le_of_ble_eq_true rfl, Nat.le_of_ble_eq_true rfl⟩ rfl hl.1 rfl (Nat.le_of_ble_eq_true rfl) dX11_row_14 ⟨Nat.zero_le _, Nat.zero_le _⟩) hB hA rfl (fun H locs hB => ?_)
    obtain ⟨rfl, rfl⟩ := Prod.mk.inj (Option.some.inj h)
    exact W.iret hx hb hr (R_end hB) hB.2.2.2.2 dX11_row_17
  · replace h := cs_s h
    replace h := ck_eq h; obtain ⟨q_5, h⟩ := h
    have hl : lv_has ls 5 [(4, .ref (gL g y_4)), (0, .ref (gL g 0)), (1, .int a1), (2, .int a2), (3, .int a3)] := hl
    refine lv_ifnonnull (tgt := 18) hx hb dX11_row_9 (by decide) ?_
    refine lv_iload_n hx hb dX11_row_18 rfl (lv_at hl 4 rfl) ?_
    refine lv_if_ge (tgt := 29) hx hb dX11_row_19 (by decide) (fun c_9 => ?_) (fun c_9 => ?_)
    · replace h := itp h c_9
      refine lv_iload_n hx hb dX11_row_29 rfl (lv_at hl 3 rfl) ?_
      refine lv_if_lt (tgt := 38) hx hb dX11_row_30 (by decide) (fun c_10 => ?_) (fun c_10 => ?_)
      · replace h := itp h c_10
        exact hb_38 s_2 H locs ls h hB (lv_sub hl [1] rfl)
      · replace h := itn h c_10
        refine lv_iload_n hx hb dX11_row_33 rfl (lv_at hl 3 rfl) ?_
        refine lv_iconst (v := 3) hx hb dX11_row_34 (by decide) ?_
        refine lv_icmp_le (tgt := 45) hx hb dX11_row_35 (by decide) (fun c_14 => ?_) (fun c_14 => ?_)
        · replace h := itp h c_14
          refine lv_iload_n hx hb dX11_row_45 rfl (lv_at hl 4 rfl) ?_
          refine lv_sipush (v := 160) hx hb dX11_row_46 (by decide) ?_
          refine lv_icmp_le (tgt := 59) hx hb dX11_row_49 (by decide) (fun c_15 => ?_) (fun c_15 => ?_)
          · replace h := itp h c_15
            refine lv_aload hx hb dX11_row_59 (lv_at hl 0 rfl) ?_
            refine lv_iload_n hx hb dX11_row_61 rfl (lv_at hl 3 rfl) ?_
            refine lv_iload_n hx hb dX11_row_62 rfl (lv_at hl 4 rfl) ?_
            replace h := b2_eq h; obtain ⟨r_16, s_17, hc_18, h⟩ := h
            refine R_call (rest := []) [] (R_runV (n := 2) (As := [.int a2, .int a3]) ⟨hx, hb, hml, hown, ht⟩ (fun _ h9 => h9) hK hZ hA hB (c_X5_holdRow l g P s_2 y_4 a2 a3 q_5 H.size hc_18) (R_recv hK hB (ky_in _ (by rw [q_5]; decide)) (cell_6 q_5) rfl) tw182 tw179 tw180 tw181 tw3 ⟨by decide, by decide, by decide⟩ rfl rfl ⟨Nat.le_of_ble_eq_true rfl, Nat.le_of_ble_eq_true rfl⟩ rfl hl.1 rfl (Nat.le_of_ble_eq_true rfl) dX11_row_63 ⟨Nat.zero_le _, Nat.zero_le _⟩) hB hA rfl (fun H locs hB => ?_)
            refine lv_iconst (v := 1) hx hb dX11_row_66 (by decide) ?_
            obtain ⟨rfl, rfl⟩ := Prod.mk.inj (Option.some.inj h)
            exact W.iret hx hb hr (R_end hB) hB.2.2.2.2 dX11_row_67
          · replace h := itn h c_15
            refine lv_aload_n hx hb dX11_row_52 rfl (lv_at hl 1 rfl) ?_
            refine lv_bipush (v := -7) hx hb dX11_row_53 (by decide) ?_
            replace h := b2_eq h; obtain ⟨r_19, s_20, hc_21, h⟩ := h
            refine R_call (rest := []) [.int r_19] (R_runV (n := 1) (As := [.int (-7 : Int32)]) ⟨hx, hb, hml, hown, ht⟩ (fun _ h9 => h9) hK hZ hA hB (c_X11_refuse l g P s_2 (-7 : Int32) H.size hc_21) (R_recv hK hB (by decide) (cell_0 rfl) rfl) tw178 tw175 tw177 pw1 tw1 ⟨by decide, by decide, by decide⟩ rfl rfl ⟨Nat.le_of_ble_eq_true rfl, Nat.le_of_ble_eq_true rfl⟩ rfl hl.1 rfl (Nat.le_of_ble_eq_true rfl) dX11_row_55 ⟨Nat.zero_le _, Nat.zero_le _⟩) hB hA rfl (fun H locs hB => ?_)
            obtain ⟨rfl, rfl⟩ := Prod.mk.inj (Option.some.inj h)
            exact W.iret hx hb hr (R_end hB) hB.2.2.2.2 dX11_row_58
        · replace h := itn h c_14
          exact hb_38 s_2 H locs ls h hB (lv_sub hl [1] rfl)
    · replace h := itn h c_9
      refine lv_aload_n hx hb dX11_row_22 rfl (lv_at hl 1 rfl) ?_
      refine lv_bipush (v := -4) hx hb dX11_row_23 (by decide) ?_
      replace h := b2_eq h; obtain ⟨r_22, s_23, hc_24, h⟩ := h
      refine R_call (rest := []) [.int r_22] (R_runV (n := 1) (As := [.int (-4 : Int32)]) ⟨hx, hb, hml, hown, ht⟩ (fun _ h9 => h9) hK hZ hA hB (c_X11_refuse l g P s_2 (-4 : Int32) H.size hc_24) (R_recv hK hB (by decide) (cell_0 rfl) rfl) tw178 tw175 tw177 pw1 tw1 ⟨by decide, by decide, by decide⟩ rfl rfl ⟨Nat.le_of_ble_eq_true rfl, Nat.le_of_ble_eq_true rfl⟩ rfl hl.1 rfl (Nat.le_of_ble_eq_true rfl) dX11_row_25 ⟨Nat.zero_le _, Nat.zero_le _⟩) hB hA rfl (fun H locs hB => ?_)
      obtain ⟨rfl, rfl⟩ := Prod.mk.inj (Option.some.inj h)
      exact W.iret hx hb hr (R_end hB) hB.2.2.2.2 dX11_row_28
def f_X11_set (a1 : Int32) (a2 : Int32) (a3 : Int64) (σ : Hp) : Option (Int32 × Hp) := b2 (f_X11_shelfAt a1 σ) (fun r_1 s_2 => cs r_1 (b2 (f_X11_refuse (-1 : Int32) s_2) (fun r_6 s_7 => some (r_6, s_7))) (fun y_4 => ck (ky y_4 = 6) (b2 (f_X5_refusalOfRow y_4 s_2) (fun r_9 s_10 => if r_9 = 0 then b2 (f_X5_has y_4 a2 (1 : Int32) s_10) (fun r_13 s_14 => if r_13 = 0 then b2 (f_X11_refuse (-5 : Int32) s_14) (fun r_20 s_21 => some (r_20, s_21)) else b2 (f_X5_put y_4 a2 a3 s_14) (fun r_17 s_18 => some ((1 : Int32), s_18))) else b2 (f_X11_refuse r_9 s_10) (fun r_23 s_24 => some (r_23, s_24))))))
set_option maxHeartbeats 4000000 in
set_option maxRecDepth 100000 in
theorem c_X11_set (l : Launch) (g : tG) (P : Nat → Nat) (σ : Hp) (a1 : Int32) (a2 : Int32) (a3 : Int64) (sz : Nat) {r : Int32} {τ : Hp} (h : f_X11_set a1 a2 a3 σ = some (r, τ)) : Met l yX11_set (Cond.code yX11_set cX11_set 7 (some .int) :: tblG) ({ frames := 2, cells := 0, slots := 0, locals := 45 }) (va_Pc [.ref (gL g 0), .int a1, .int a2, .long a3] (tPre g P σ sz)) (tQ (some (.int r)) (tPost g P τ (va_A (wC g P σ) sz)) (va_A (wC g P σ) sz)) 0 0 (va_A (wC g P σ) sz) := by
  refine T_start (B := fun A => tPost g P τ A) (by decide) (Nat.le_of_ble_eq_true rfl) ?_
  intro p e s m args below meth c ls0 A hx hb hml hr hown hlocks ht hnm hK hZ hA hB0 hl0
  suffices hmain : ∀ (H : Heap) (locs : List Loc) (ls : Array Slot), tB g P σ A s.heap H locs → lv_has ls 7 [(0, .ref (gL g 0)), (1, .int a1), (2, .int a2), (3, .long a3)] → WQ p l e { frames := 2, cells := 0, slots := 0, locals := 45 } s m args below meth c g P A (some (.int r)) τ H locs (F0 m 0 ls []) from hmain _ _ ls0 hB0 hl0
  intro H locs ls hB hl
  unfold f_X11_set at h
  refine lv_aload_n hx hb dX11_set_0 rfl (lv_at hl 0 rfl) ?_
  refine lv_iload_n hx hb dX11_set_1 rfl (lv_at hl 1 rfl) ?_
  replace h := b2_eq h; obtain ⟨r_1, s_2, hc_3, h⟩ := h
  refine R_call (rest := []) [va_rf (Option.map (gL g) r_1)] (R_runV (n := 1) (As := [.int a1]) ⟨hx, hb, hml, hown, ht⟩ (fun _ h9 => h9) hK hZ hA hB (c_X11_shelfAt l g P σ a1 H.size hc_3) (R_recv hK hB (by decide) (cell_0 rfl) rfl) tw174 tw171 tw173 pw0 tw1 ⟨by decide, by decide, by decide⟩ rfl rfl ⟨Nat.le_of_ble_eq_true rfl, Nat.le_of_ble_eq_true rfl⟩ rfl hl.1 rfl (Nat.le_of_ble_eq_true rfl) dX11_set_2 ⟨Nat.zero_le _, Nat.zero_le _⟩) hB hA rfl (fun H locs hB => ?_)
  refine lv_astoreR (lv' := [(5, va_rf (Option.map (gL g) r_1)), (0, .ref (gL g 0)), (1, .int a1), (2, .int a2), (3, .long a3)]) hx hb dX11_set_5 hl (by decide) rfl (fun ls hl => ?_)
  refine lv_aloadR hx hb dX11_set_7 (lv_at hl 0 rfl) ?_
  rcases r_1 with _ | y_4
  · replace h := cs_n h
    have hl : lv_has ls 7 [(5, .null), (0, .ref (gL g 0)), (1, .int a1), (2, .int a2), (3, .long a3)] := hl
    refine lv_ifnonnullN hx hb dX11_set_9 ?_
    refine lv_aload_n hx hb dX11_set_12 rfl (lv_at hl 1 rfl) ?_
    refine lv_iconst (v := -1) hx hb dX11_set_13 (by decide) ?_
    replace h := b2_eq h; obtain ⟨r_6, s_7, hc_8, h⟩ := h
    refine R_call (rest := []) [.int r_6] (R_runV (n := 1) (As := [.int (-1 : Int32)]) ⟨hx, hb, hml, hown, ht⟩ (fun _ h9 => h9) hK hZ hA hB (c_X11_refuse l g P s_2 (-1 : Int32) H.size hc_8) (R_recv hK hB (by decide) (cell_0 rfl) rfl) tw178 tw175 tw177 pw1 tw1 ⟨by decide, by decide, by decide⟩ rfl rfl ⟨Nat.le_of_ble_eq_true rfl, Nat.le_of_ble_eq_true rfl⟩ rfl hl.1 rfl (Nat.le_of_ble_eq_true rfl) dX11_set_14 ⟨Nat.zero_le _, Nat.zero_le _⟩) hB hA rfl (fun H locs hB => ?_)
    obtain ⟨rfl, rfl⟩ := Prod.mk.inj (Option.some.inj h)
    exact W.iret hx hb hr (R_end hB) hB.2.2.2.2 dX11_set_17
  · replace h := cs_s h
    replace h := ck_eq h; obtain ⟨q_5, h⟩ := h
    have hl : lv_has ls 7 [(5, .ref (gL g y_4)), (0, .ref (gL g 0)), (1, .int a1), (2, .int a2), (3, .long a3)] := hl
    refine lv_ifnonnull (tgt := 18) hx hb dX11_set_9 (by decide) ?_
    refine lv_aload hx hb dX11_set_18 (lv_at hl 0 rfl) ?_
    replace h := b2_eq h; obtain ⟨r_9, s_10, hc_11, h⟩ := h
    refine R_call (rest := []) [.int r_9] (R_runV (n := 0) (As := []) ⟨hx, hb, hml, hown, ht⟩ (fun _ h9 => h9) hK hZ hA hB (c_X5_refusalOfRow l g P s_2 y_4 q_5 H.size hc_11) (R_recv hK hB (ky_in _ (by rw [q_5]; decide)) (cell_6 q_5) rfl) tw193 tw190 tw191 tw192 tw3 ⟨by decide, by decide, by decide⟩ rfl rfl ⟨Nat.le_of_ble_eq_true rfl, Nat.le_of_ble_eq_true rfl⟩ rfl hl.1 rfl (Nat.le_of_ble_eq_true rfl) dX11_set_20 ⟨Nat.zero_le _, Nat.zero_le _⟩) hB hA rfl (fun H locs hB => ?_)
    refine lv_istore (lv' := [(6, .int r_9), (5, .ref (gL g y_4)), (0, .ref (gL g 0)), (1, .int a1), (2, .int a2), (3, .long a3)]) hx hb dX11_set_23 hl (by decide) rfl (fun ls hl => ?_)
    refine lv_iload hx hb dX11_set_25 (lv_at hl 0 rfl) ?_
    refine lv_if_eq (tgt := 37) hx hb dX11_set_27 (by decide) (fun c_12 => ?_) (fun c_12 => ?_)
    · replace h := itp h c_12
      refine lv_aload hx hb dX11_set_37 (lv_at hl 1 rfl) ?_
      refine lv_iload_n hx hb dX11_set_39 rfl (lv_at hl 4 rfl) ?_
      refine lv_iconst (v := 1) hx hb dX11_set_40 (by decide) ?_
      replace h := b2_eq h; obtain ⟨r_13, s_14, hc_15, h⟩ := h
      refine R_call (rest := []) [.int r_13] (R_runV (n := 2) (As := [.int a2, .int (1 : Int32)]) ⟨hx, hb, hml, hown, ht⟩ (fun _ h9 => h9) hK hZ hA hB (c_X5_has l g P s_10 y_4 a2 (1 : Int32) q_5 H.size hc_15) (R_recv hK hB (ky_in _ (by rw [q_5]; decide)) (cell_6 q_5) rfl) tw197 tw194 tw195 tw196 tw3 ⟨by decide, by decide, by decide⟩ rfl rfl ⟨Nat.le_of_ble_eq_true rfl, Nat.le_of_ble_eq_true rfl⟩ rfl hl.1 rfl (Nat.le_of_ble_eq_true rfl) dX11_set_41 ⟨Nat.zero_le _, Nat.zero_le _⟩) hB hA rfl (fun H locs hB => ?_)
      refine lv_if_ne (tgt := 54) hx hb dX11_set_44 (by decide) (fun c_16 => ?_) (fun c_16 => ?_)
      · replace h := itn h c_16
        refine lv_aload hx hb dX11_set_54 (lv_at hl 1 rfl) ?_
        refine lv_iload_n hx hb dX11_set_56 rfl (lv_at hl 4 rfl) ?_
        refine lv_lload_n hx hb dX11_set_57 rfl (lv_at hl 5 rfl) ?_
        replace h := b2_eq h; obtain ⟨r_17, s_18, hc_19, h⟩ := h
        refine R_call (rest := []) [] (R_runV (n := 2) (As := [.int a2, .long a3]) ⟨hx, hb, hml, hown, ht⟩ (fun _ h9 => h9) hK hZ hA hB (c_X5_put l g P s_14 y_4 a2 a3 q_5 H.size hc_19) (R_recv hK hB (ky_in _ (by rw [q_5]; decide)) (cell_6 q_5) rfl) tw201 tw198 tw199 tw200 tw3 ⟨by decide, by decide, by decide⟩ rfl rfl ⟨Nat.le_of_ble_eq_true rfl, Nat.le_of_ble_eq_true rfl⟩ rfl hl.1 rfl (Nat.le_of_ble_eq_true rfl) dX11_set_58 ⟨Nat.zero_le _, Nat.zero_le _⟩) hB hA rfl (fun H locs hB => ?_)
        refine lv_iconst (v := 1) hx hb dX11_set_61 (by decide) ?_
        obtain ⟨rfl, rfl⟩ := Prod.mk.inj (Option.some.inj h)
        exact W.iret hx hb hr (R_end hB) hB.2.2.2.2 dX11_set_62
      · replace h := itp h c_16
        refine lv_aload_n hx hb dX11_set_47 rfl (lv_at hl 2 rfl) ?_
        refine lv_bipush (v := -5) hx hb dX11_set_48 (by decide) ?_
        replace h := b2_eq h; obtain ⟨r_20, s_21, hc_22, h⟩ := h
        refine R_call (rest := []) [.int r_20] (R_runV (n := 1) (As := [.int (-5 : Int32)]) ⟨hx, hb, hml, hown, ht⟩ (fun _ h9 => h9) hK hZ hA hB (c_X11_refuse l g P s_14 (-5 : Int32) H.size hc_22) (R_recv hK hB (by decide) (cell_0 rfl) rfl) tw178 tw175 tw177 pw1 tw1 ⟨by decide, by decide, by decide⟩ rfl rfl ⟨Nat.le_of_ble_eq_true rfl, Nat.le_of_ble_eq_true rfl⟩ rfl hl.1 rfl (Nat.le_of_ble_eq_true rfl) dX11_set_50 ⟨Nat.zero_le _, Nat.zero_le _⟩) hB hA rfl (fun H locs hB => ?_)
        obtain ⟨rfl, rfl⟩ := Prod.mk.inj (Option.some.inj h)
        exact W.iret hx hb hr (R_end hB) hB.2.2.2.2 dX11_set_53
    · replace h := itn h c_12
      refine lv_aload_n hx hb dX11_set_30 rfl (lv_at hl 2 rfl) ?_
      refine lv_iload hx hb dX11_set_31 (lv_at hl 0 rfl) ?_
      replace h := b2_eq h; obtain ⟨r_23, s_24, hc_25, h⟩ := h
      refine R_call (rest := []) [.int r_23] (R_runV (n := 1) (As := [.int r_9]) ⟨hx, hb, hml, hown, ht⟩ (fun _ h9 => h9) hK hZ hA hB (c_X11_refuse l g P s_10 r_9 H.size hc_25) (R_recv hK hB (by decide) (cell_0 rfl) rfl) tw178 tw175 tw177 pw1 tw1 ⟨by decide, by decide, by decide⟩ rfl rfl ⟨Nat.le_of_ble_eq_true rfl, Nat.le_of_ble_eq_true rfl⟩ rfl hl.1 rfl (Nat.le_of_ble_eq_true rfl) dX11_set_33 ⟨Nat.zero_le _, Nat.zero_le _⟩) hB hA rfl (fun H locs hB => ?_)
      obtain ⟨rfl, rfl⟩ := Prod.mk.inj (Option.some.inj h)
      exact W.iret hx hb hr (R_end hB) hB.2.2.2.2 dX11_set_36
def f_X11_copy_b24 (σ1 : Hp) : Option (Int32 × Hp) := b2 (f_X11_refuse (-1 : Int32) σ1) (fun r_9 s_10 => some (r_9, s_10))
def f_X11_copy_b91 (σ1 : Hp) : Option (Int32 × Hp) := b2 (f_X11_refuse (-2 : Int32) σ1) (fun r_16 s_17 => some (r_16, s_17))
def f_X11_copy_b145 (σ1 : Hp) : Option (Int32 × Hp) := b2 (f_X11_refuse (-5 : Int32) σ1) (fun r_27 s_28 => some (r_27, s_28))
def f_X11_copy_b98 (x3 : Int32) (x4 : Int32) (x5 : Int32) (x6 : Nat) (x7 : Nat) (x8 : Int32) (σ1 : Hp) : Option (Int32 × Hp) := if x8 = 0 then b2 (f_X11_refuse (-3 : Int32) σ1) (fun r_38 s_39 => some (r_38, s_39)) else if 0 ≤ x5 then b2 (f_X5_has x6 x3 x5 σ1) (fun r_23 s_24 => if r_23 = 0 then f_X11_copy_b145 s_24 else b2 (f_X5_has x7 x4 x5 s_24) (fun r_30 s_31 => if r_30 = 0 then f_X11_copy_b145 s_31 else ck (okCopy x3 x4 x5 160 160 = true) (some ((1 : Int32), (rowJ s_31 (x7 + 8) (va_cpy (hJ s_31 (x6 + 8)) (hJ s_31 (x7 + 8)) x3.toNatClampNeg x4.toNatClampNeg x5.toNatClampNeg)))))) else b2 (f_X11_refuse (-4 : Int32) σ1) (fun r_35 s_36 => some (r_35, s_36))
def f_X11_copy_b53 (x3 : Int32) (x4 : Int32) (x5 : Int32) (x6 : Nat) (x7 : Nat) (xt0 : Int32) (σ1 : Hp) : Option (Int32 × Hp) := if (hI σ1 x6 3) = (-1 : Int32) then if (hI σ1 x7 3) = (-1 : Int32) then if xt0 = 0 then f_X11_copy_b98 x3 x4 x5 x6 x7 xt0 σ1 else if (hI σ1 x6 1) = (hI σ1 x7 1) then f_X11_copy_b98 x3 x4 x5 x6 x7 xt0 σ1 else f_X11_copy_b91 σ1 else f_X11_copy_b91 σ1 else f_X11_copy_b91 σ1
def f_X11_copy_b52 (x3 : Int32) (x4 : Int32) (x5 : Int32) (x6 : Nat) (x7 : Nat) (σ1 : Hp) : Option (Int32 × Hp) := f_X11_copy_b53 x3 x4 x5 x6 x7 (0 : Int32) σ1
def f_X11_copy (a1 : Int32) (a2 : Int32) (a3 : Int32) (a4 : Int32) (a5 : Int32) (σ : Hp) : Option (Int32 × Hp) := b2 (f_X11_shelfAt a1 σ) (fun r_1 s_2 => b2 (f_X11_shelfAt a2 s_2) (fun r_4 s_5 => cs r_1 (f_X11_copy_b24 s_5) (fun y_7 => ck (ky y_7 = 6) (cs r_4 (f_X11_copy_b24 s_5) (fun y_12 => ck (ky y_12 = 6) (if (hI s_5 y_7 1) = (-1 : Int32) then f_X11_copy_b52 a3 a4 a5 y_7 y_12 s_5 else if (hI s_5 y_12 1) = (-1 : Int32) then f_X11_copy_b52 a3 a4 a5 y_7 y_12 s_5 else f_X11_copy_b53 a3 a4 a5 y_7 y_12 (1 : Int32) s_5))))))
set_option maxHeartbeats 4000000 in
set_option maxRecDepth 100000 in
theorem c_X11_copy (l : Launch) (g : tG) (P : Nat → Nat) (σ : Hp) (a1 : Int32) (a2 : Int32) (a3 : Int32) (a4 : Int32) (a5 : Int32) (sz : Nat) {r : Int32} {τ : Hp} (h : f_X11_copy a1 a2 a3 a4 a5 σ = some (r, τ)) : Met l yX11_copy (Cond.code yX11_copy cX11_copy 9 (some .int) :: tblG) ({ frames := 1, cells := 0, slots := 0, locals := 60 }) (va_Pc [.ref (gL g 0), .int a1, .int a2, .int a3, .int a4, .int a5] (tPre g P σ sz)) (tQ (some (.int r)) (tPost g P τ (va_A (wC g P σ) sz)) (va_A (wC g P σ) sz)) 0 0 (va_A (wC g P σ) sz) := by
  refine T_start (B := fun A => tPost g P τ A) (by decide) (Nat.le_of_ble_eq_true rfl) ?_
  intro p e s m args below meth c ls0 A hx hb hml hr hown hlocks ht hnm hK hZ hA hB0 hl0
  have hb_24 : ∀ (σ1 : Hp) (H : Heap) (locs : List Loc) (ls : Array Slot), f_X11_copy_b24 σ1 = some (r, τ) → tB g P σ1 A s.heap H locs → lv_has ls 9 [(0, .ref (gL g 0))] → WQ p l e { frames := 1, cells := 0, slots := 0, locals := 60 } s m args below meth c g P A (some (.int r)) τ H locs (F0 m 24 ls []) := by
    intro σ1 H locs ls h hB hl
    unfold f_X11_copy_b24 at h
    refine lv_aload_n hx hb dX11_copy_24 rfl (lv_at hl 0 rfl) ?_
    refine lv_iconst (v := -1) hx hb dX11_copy_25 (by decide) ?_
    replace h := b2_eq h; obtain ⟨r_9, s_10, hc_11, h⟩ := h
    refine R_call (rest := []) [.int r_9] (R_runV (n := 1) (As := [.int (-1 : Int32)]) ⟨hx, hb, hml, hown, ht⟩ (fun _ h9 => h9) hK hZ hA hB (c_X11_refuse l g P σ1 (-1 : Int32) H.size hc_11) (R_recv hK hB (by decide) (cell_0 rfl) rfl) tw178 tw175 tw177 pw1 tw1 ⟨by decide, by decide, by decide⟩ rfl rfl ⟨Nat.le_of_ble_eq_true rfl, Nat.le_of_ble_eq_true rfl⟩ rfl hl.1 rfl (Nat.le_of_ble_eq_true rfl) dX11_copy_26 ⟨Nat.zero_le _, Nat.zero_le _⟩) hB hA rfl (fun H locs hB => ?_)
    obtain ⟨rfl, rfl⟩ := Prod.mk.inj (Option.some.inj h)
    exact W.iret hx hb hr (R_end hB) hB.2.2.2.2 dX11_copy_29
  have hb_91 : ∀ (σ1 : Hp) (H : Heap) (locs : List Loc) (ls : Array Slot), f_X11_copy_b91 σ1 = some (r, τ) → tB g P σ1 A s.heap H locs → lv_has ls 9 [(0, .ref (gL g 0))] → WQ p l e { frames := 1, cells := 0, slots := 0, locals := 60 } s m args below meth c g P A (some (.int r)) τ H locs (F0 m 91 ls []) := by
    intro σ1 H locs ls h hB hl
    unfold f_X11_copy_b91 at h
    refine lv_aload_n hx hb dX11_copy_91 rfl (lv_at hl 0 rfl) ?_
    refine lv_bipush (v := -2) hx hb dX11_copy_92 (by decide) ?_
    replace h := b2_eq h; obtain ⟨r_16, s_17, hc_18, h⟩ := h
    refine R_call (rest := []) [.int r_16] (R_runV (n := 1) (As := [.int (-2 : Int32)]) ⟨hx, hb, hml, hown, ht⟩ (fun _ h9 => h9) hK hZ hA hB (c_X11_refuse l g P σ1 (-2 : Int32) H.size hc_18) (R_recv hK hB (by decide) (cell_0 rfl) rfl) tw178 tw175 tw177 pw1 tw1 ⟨by decide, by decide, by decide⟩ rfl rfl ⟨Nat.le_of_ble_eq_true rfl, Nat.le_of_ble_eq_true rfl⟩ rfl hl.1 rfl (Nat.le_of_ble_eq_true rfl) dX11_copy_94 ⟨Nat.zero_le _, Nat.zero_le _⟩) hB hA rfl (fun H locs hB => ?_)
    obtain ⟨rfl, rfl⟩ := Prod.mk.inj (Option.some.inj h)
    exact W.iret hx hb hr (R_end hB) hB.2.2.2.2 dX11_copy_97
  have hb_145 : ∀ (σ1 : Hp) (H : Heap) (locs : List Loc) (ls : Array Slot), f_X11_copy_b145 σ1 = some (r, τ) → tB g P σ1 A s.heap H locs → lv_has ls 9 [(0, .ref (gL g 0))] → WQ p l e { frames := 1, cells := 0, slots := 0, locals := 60 } s m args below meth c g P A (some (.int r)) τ H locs (F0 m 145 ls []) := by
    intro σ1 H locs ls h hB hl
    unfold f_X11_copy_b145 at h
    refine lv_aload_n hx hb dX11_copy_145 rfl (lv_at hl 0 rfl) ?_
    refine lv_bipush (v := -5) hx hb dX11_copy_146 (by decide) ?_
    replace h := b2_eq h; obtain ⟨r_27, s_28, hc_29, h⟩ := h
    refine R_call (rest := []) [.int r_27] (R_runV (n := 1) (As := [.int (-5 : Int32)]) ⟨hx, hb, hml, hown, ht⟩ (fun _ h9 => h9) hK hZ hA hB (c_X11_refuse l g P σ1 (-5 : Int32) H.size hc_29) (R_recv hK hB (by decide) (cell_0 rfl) rfl) tw178 tw175 tw177 pw1 tw1 ⟨by decide, by decide, by decide⟩ rfl rfl ⟨Nat.le_of_ble_eq_true rfl, Nat.le_of_ble_eq_true rfl⟩ rfl hl.1 rfl (Nat.le_of_ble_eq_true rfl) dX11_copy_148 ⟨Nat.zero_le _, Nat.zero_le _⟩) hB hA rfl (fun H locs hB => ?_)
    obtain ⟨rfl, rfl⟩ := Prod.mk.inj (Option.some.inj h)
    exact W.iret hx hb hr (R_end hB) hB.2.2.2.2 dX11_copy_151
  have hb_98 : ∀ (x3 : Int32) (x4 : Int32) (x5 : Int32) (x6 : Nat) (x7 : Nat) (x8 : Int32) (σ1 : Hp) (hk_x6 : ky x6 = 6) (hk_x7 : ky x7 = 6) (H : Heap) (locs : List Loc) (ls : Array Slot), f_X11_copy_b98 x3 x4 x5 x6 x7 x8 σ1 = some (r, τ) → tB g P σ1 A s.heap H locs → lv_has ls 9 [(0, .ref (gL g 0)), (3, .int x3), (4, .int x4), (5, .int x5), (6, .ref (gL g x6)), (7, .ref (gL g x7)), (8, .int x8)] → WQ p l e { frames := 1, cells := 0, slots := 0, locals := 60 } s m args below meth c g P A (some (.int r)) τ H locs (F0 m 98 ls []) := by
    intro x3 x4 x5 x6 x7 x8 σ1 hk_x6 hk_x7 H locs ls h hB hl
    unfold f_X11_copy_b98 at h
    refine lv_iload hx hb dX11_copy_98 (lv_at hl 6 rfl) ?_
    refine lv_if_ne (tgt := 110) hx hb dX11_copy_100 (by decide) (fun c_21 => ?_) (fun c_21 => ?_)
    · replace h := itn h c_21
      refine lv_iload hx hb dX11_copy_110 (lv_at hl 3 rfl) ?_
      refine lv_if_ge (tgt := 122) hx hb dX11_copy_112 (by decide) (fun c_22 => ?_) (fun c_22 => ?_)
      · replace h := itp h c_22
        refine lv_aload hx hb dX11_copy_122 (lv_at hl 4 rfl) ?_
        refine lv_iload_n hx hb dX11_copy_124 rfl (lv_at hl 1 rfl) ?_
        refine lv_iload hx hb dX11_copy_125 (lv_at hl 3 rfl) ?_
        replace h := b2_eq h; obtain ⟨r_23, s_24, hc_25, h⟩ := h
        refine R_call (rest := []) [.int r_23] (R_runV (n := 2) (As := [.int x3, .int x5]) ⟨hx, hb, hml, hown, ht⟩ (fun _ h9 => h9) hK hZ hA hB (c_X5_has l g P σ1 x6 x3 x5 hk_x6 H.size hc_25) (R_recv hK hB (ky_in _ (by rw [hk_x6]; decide)) (cell_6 hk_x6) rfl) tw197 tw194 tw195 tw196 tw3 ⟨by decide, by decide, by decide⟩ rfl rfl ⟨Nat.le_of_ble_eq_true rfl, Nat.le_of_ble_eq_true rfl⟩ rfl hl.1 rfl (Nat.le_of_ble_eq_true rfl) dX11_copy_127 ⟨Nat.zero_le _, Nat.zero_le _⟩) hB hA rfl (fun H locs hB => ?_)
        refine lv_if_eq (tgt := 145) hx hb dX11_copy_130 (by decide) (fun c_26 => ?_) (fun c_26 => ?_)
        · replace h := itp h c_26
          exact hb_145 s_24 H locs ls h hB (lv_sub hl [0] rfl)
        · replace h := itn h c_26
          refine lv_aload hx hb dX11_copy_133 (lv_at hl 5 rfl) ?_
          refine lv_iload hx hb dX11_copy_135 (lv_at hl 2 rfl) ?_
          refine lv_iload hx hb dX11_copy_137 (lv_at hl 3 rfl) ?_
          replace h := b2_eq h; obtain ⟨r_30, s_31, hc_32, h⟩ := h
          refine R_call (rest := []) [.int r_30] (R_runV (n := 2) (As := [.int x4, .int x5]) ⟨hx, hb, hml, hown, ht⟩ (fun _ h9 => h9) hK hZ hA hB (c_X5_has l g P s_24 x7 x4 x5 hk_x7 H.size hc_32) (R_recv hK hB (ky_in _ (by rw [hk_x7]; decide)) (cell_6 hk_x7) rfl) tw197 tw194 tw195 tw196 tw3 ⟨by decide, by decide, by decide⟩ rfl rfl ⟨Nat.le_of_ble_eq_true rfl, Nat.le_of_ble_eq_true rfl⟩ rfl hl.1 rfl (Nat.le_of_ble_eq_true rfl) dX11_copy_139 ⟨Nat.zero_le _, Nat.zero_le _⟩) hB hA rfl (fun H locs hB => ?_)
          refine lv_if_ne (tgt := 152) hx hb dX11_copy_142 (by decide) (fun c_33 => ?_) (fun c_33 => ?_)
          · replace h := itn h c_33
            refine lv_aload hx hb dX11_copy_152 (lv_at hl 4 rfl) ?_
            refine R_get (v := .ref (gL g (x6 + 8))) hx hb ht ui_X5 hown hK hB (ky_in _ (by rw [hk_x6]; decide)) (cell_6 hk_x6) rfl 0 (by decide) (ht _ tw84) (fun _ h9 => h9) rfl dX11_copy_154 ?_
            refine lv_iload_n hx hb dX11_copy_157 rfl (lv_at hl 1 rfl) ?_
            refine lv_aload hx hb dX11_copy_158 (lv_at hl 5 rfl) ?_
            refine R_get (v := .ref (gL g (x7 + 8))) hx hb ht ui_X5 hown hK hB (ky_in _ (by rw [hk_x7]; decide)) (cell_6 hk_x7) rfl 0 (by decide) (ht _ tw84) (fun _ h9 => h9) rfl dX11_copy_160 ?_
            refine lv_iload hx hb dX11_copy_163 (lv_at hl 2 rfl) ?_
            refine lv_iload hx hb dX11_copy_165 (lv_at hl 3 rfl) ?_
            replace h := ck_eq h; obtain ⟨q_34, h⟩ := h
            refine R_copy hx hb (by rw [hml]; exact hl.1.symm) hown (ht _ tw210) (ht _ tw212) (ht _ tw211) (ht _ tw7) hK hB (ky_e8 hk_x6) (ky_e8 hk_x7) (ln_e8 hk_x6) (ln_e8 hk_x7) (Nat.le_of_ble_eq_true rfl) (by decide) q_34 dX11_copy_167 (fun H locs hB => ?_)
            refine lv_iconst (v := 1) hx hb dX11_copy_170 (by decide) ?_
            obtain ⟨rfl, rfl⟩ := Prod.mk.inj (Option.some.inj h)
            exact W.iret hx hb hr (R_end hB) hB.2.2.2.2 dX11_copy_171
          · replace h := itp h c_33
            exact hb_145 s_31 H locs ls h hB (lv_sub hl [0] rfl)
      · replace h := itn h c_22
        refine lv_aload_n hx hb dX11_copy_115 rfl (lv_at hl 0 rfl) ?_
        refine lv_bipush (v := -4) hx hb dX11_copy_116 (by decide) ?_
        replace h := b2_eq h; obtain ⟨r_35, s_36, hc_37, h⟩ := h
        refine R_call (rest := []) [.int r_35] (R_runV (n := 1) (As := [.int (-4 : Int32)]) ⟨hx, hb, hml, hown, ht⟩ (fun _ h9 => h9) hK hZ hA hB (c_X11_refuse l g P σ1 (-4 : Int32) H.size hc_37) (R_recv hK hB (by decide) (cell_0 rfl) rfl) tw178 tw175 tw177 pw1 tw1 ⟨by decide, by decide, by decide⟩ rfl rfl ⟨Nat.le_of_ble_eq_true rfl, Nat.le_of_ble_eq_true rfl⟩ rfl hl.1 rfl (Nat.le_of_ble_eq_true rfl) dX11_copy_118 ⟨Nat.zero_le _, Nat.zero_le _⟩) hB hA rfl (fun H locs hB => ?_)
        obtain ⟨rfl, rfl⟩ := Prod.mk.inj (Option.some.inj h)
        exact W.iret hx hb hr (R_end hB) hB.2.2.2.2 dX11_copy_121
    · replace h := itp h c_21
      refine lv_aload_n hx hb dX11_copy_103 rfl (lv_at hl 0 rfl) ?_
      refine lv_bipush (v := -3) hx hb dX11_copy_104 (by decide) ?_
      replace h := b2_eq h; obtain ⟨r_38, s_39, hc_40, h⟩ := h
      refine R_call (rest := []) [.int r_38] (R_runV (n := 1) (As := [.int (-3 : Int32)]) ⟨hx, hb, hml, hown, ht⟩ (fun _ h9 => h9) hK hZ hA hB (c_X11_refuse l g P σ1 (-3 : Int32) H.size hc_40) (R_recv hK hB (by decide) (cell_0 rfl) rfl) tw178 tw175 tw177 pw1 tw1 ⟨by decide, by decide, by decide⟩ rfl rfl ⟨Nat.le_of_ble_eq_true rfl, Nat.le_of_ble_eq_true rfl⟩ rfl hl.1 rfl (Nat.le_of_ble_eq_true rfl) dX11_copy_106 ⟨Nat.zero_le _, Nat.zero_le _⟩) hB hA rfl (fun H locs hB => ?_)
      obtain ⟨rfl, rfl⟩ := Prod.mk.inj (Option.some.inj h)
      exact W.iret hx hb hr (R_end hB) hB.2.2.2.2 dX11_copy_109
  have hb_53 : ∀ (x3 : Int32) (x4 : Int32) (x5 : Int32) (x6 : Nat) (x7 : Nat) (xt0 : Int32) (σ1 : Hp) (hk_x6 : ky x6 = 6) (hk_x7 : ky x7 = 6) (H : Heap) (locs : List Loc) (ls : Array Slot), f_X11_copy_b53 x3 x4 x5 x6 x7 xt0 σ1 = some (r, τ) → tB g P σ1 A s.heap H locs → lv_has ls 9 [(0, .ref (gL g 0)), (3, .int x3), (4, .int x4), (5, .int x5), (6, .ref (gL g x6)), (7, .ref (gL g x7))] → WQ p l e { frames := 1, cells := 0, slots := 0, locals := 60 } s m args below meth c g P A (some (.int r)) τ H locs (F0 m 53 ls [.int xt0]) := by
    intro x3 x4 x5 x6 x7 xt0 σ1 hk_x6 hk_x7 H locs ls h hB hl
    unfold f_X11_copy_b53 at h
    refine lv_istore (lv' := [(8, .int xt0), (0, .ref (gL g 0)), (3, .int x3), (4, .int x4), (5, .int x5), (6, .ref (gL g x6)), (7, .ref (gL g x7))]) hx hb dX11_copy_53 hl (by decide) rfl (fun ls hl => ?_)
    refine lv_aload hx hb dX11_copy_55 (lv_at hl 5 rfl) ?_
    refine R_get (v := .int (hI σ1 x6 3)) hx hb ht ui_X5 hown hK hB (ky_in _ (by rw [hk_x6]; decide)) (cell_6 hk_x6) rfl 3 (by decide) (ht _ tw91) (fun _ h9 => h9) rfl dX11_copy_57 ?_
    refine lv_iconst (v := -1) hx hb dX11_copy_60 (by decide) ?_
    refine lv_icmp_ne (tgt := 91) hx hb dX11_copy_61 (by decide) (fun c_15 => ?_) (fun c_15 => ?_)
    · replace h := itn h c_15
      exact hb_91 σ1 H locs ls h hB (lv_sub hl [1] rfl)
    · replace h := itp h c_15
      refine lv_aload hx hb dX11_copy_64 (lv_at hl 6 rfl) ?_
      refine R_get (v := .int (hI σ1 x7 3)) hx hb ht ui_X5 hown hK hB (ky_in _ (by rw [hk_x7]; decide)) (cell_6 hk_x7) rfl 3 (by decide) (ht _ tw91) (fun _ h9 => h9) rfl dX11_copy_66 ?_
      refine lv_iconst (v := -1) hx hb dX11_copy_69 (by decide) ?_
      refine lv_icmp_ne (tgt := 91) hx hb dX11_copy_70 (by decide) (fun c_19 => ?_) (fun c_19 => ?_)
      · replace h := itn h c_19
        exact hb_91 σ1 H locs ls h hB (lv_sub hl [1] rfl)
      · replace h := itp h c_19
        refine lv_iload hx hb dX11_copy_73 (lv_at hl 0 rfl) ?_
        refine lv_if_eq (tgt := 98) hx hb dX11_copy_75 (by decide) (fun c_20 => ?_) (fun c_20 => ?_)
        · replace h := itp h c_20
          exact hb_98 x3 x4 x5 x6 x7 xt0 σ1 hk_x6 hk_x7 H locs ls h hB (lv_sub hl [1, 2, 3, 4, 5, 6, 0] rfl)
        · replace h := itn h c_20
          refine lv_aload hx hb dX11_copy_78 (lv_at hl 5 rfl) ?_
          refine R_get (v := .int (hI σ1 x6 1)) hx hb ht ui_X5 hown hK hB (ky_in _ (by rw [hk_x6]; decide)) (cell_6 hk_x6) rfl 1 (by decide) (ht _ tw86) (fun _ h9 => h9) rfl dX11_copy_80 ?_
          refine lv_aload hx hb dX11_copy_83 (lv_at hl 6 rfl) ?_
          refine R_get (v := .int (hI σ1 x7 1)) hx hb ht ui_X5 hown hK hB (ky_in _ (by rw [hk_x7]; decide)) (cell_6 hk_x7) rfl 1 (by decide) (ht _ tw86) (fun _ h9 => h9) rfl dX11_copy_85 ?_
          refine lv_icmp_eq (tgt := 98) hx hb dX11_copy_88 (by decide) (fun c_41 => ?_) (fun c_41 => ?_)
          · replace h := itp h c_41
            exact hb_98 x3 x4 x5 x6 x7 xt0 σ1 hk_x6 hk_x7 H locs ls h hB (lv_sub hl [1, 2, 3, 4, 5, 6, 0] rfl)
          · replace h := itn h c_41
            exact hb_91 σ1 H locs ls h hB (lv_sub hl [1] rfl)
  have hb_52 : ∀ (x3 : Int32) (x4 : Int32) (x5 : Int32) (x6 : Nat) (x7 : Nat) (σ1 : Hp) (hk_x6 : ky x6 = 6) (hk_x7 : ky x7 = 6) (H : Heap) (locs : List Loc) (ls : Array Slot), f_X11_copy_b52 x3 x4 x5 x6 x7 σ1 = some (r, τ) → tB g P σ1 A s.heap H locs → lv_has ls 9 [(0, .ref (gL g 0)), (3, .int x3), (4, .int x4), (5, .int x5), (6, .ref (gL g x6)), (7, .ref (gL g x7))] → WQ p l e { frames := 1, cells := 0, slots := 0, locals := 60 } s m args below meth c g P A (some (.int r)) τ H locs (F0 m 52 ls []) := by
    intro x3 x4 x5 x6 x7 σ1 hk_x6 hk_x7 H locs ls h hB hl
    unfold f_X11_copy_b52 at h
    refine lv_iconst (v := 0) hx hb dX11_copy_52 (by decide) ?_
    exact hb_53 x3 x4 x5 x6 x7 (0 : Int32) σ1 hk_x6 hk_x7 H locs ls h hB (lv_sub hl [0, 1, 2, 3, 4, 5] rfl)
  suffices hmain : ∀ (H : Heap) (locs : List Loc) (ls : Array Slot), tB g P σ A s.heap H locs → lv_has ls 9 [(0, .ref (gL g 0)), (1, .int a1), (2, .int a2), (3, .int a3), (4, .int a4), (5, .int a5)] → WQ p l e { frames := 1, cells := 0, slots := 0, locals := 60 } s m args below meth c g P A (some (.int r)) τ H locs (F0 m 0 ls []) from hmain _ _ ls0 hB0 hl0
  intro H locs ls hB hl
  unfold f_X11_copy at h
  refine lv_aload_n hx hb dX11_copy_0 rfl (lv_at hl 0 rfl) ?_
  refine lv_iload_n hx hb dX11_copy_1 rfl (lv_at hl 1 rfl) ?_
  replace h := b2_eq h; obtain ⟨r_1, s_2, hc_3, h⟩ := h
  refine R_call (rest := []) [va_rf (Option.map (gL g) r_1)] (R_runV (n := 1) (As := [.int a1]) ⟨hx, hb, hml, hown, ht⟩ (fun _ h9 => h9) hK hZ hA hB (c_X11_shelfAt l g P σ a1 H.size hc_3) (R_recv hK hB (by decide) (cell_0 rfl) rfl) tw174 tw171 tw173 pw0 tw1 ⟨by decide, by decide, by decide⟩ rfl rfl ⟨Nat.le_of_ble_eq_true rfl, Nat.le_of_ble_eq_true rfl⟩ rfl hl.1 rfl (Nat.le_of_ble_eq_true rfl) dX11_copy_2 ⟨Nat.zero_le _, Nat.zero_le _⟩) hB hA rfl (fun H locs hB => ?_)
  refine lv_astoreR (lv' := [(6, va_rf (Option.map (gL g) r_1)), (0, .ref (gL g 0)), (1, .int a1), (2, .int a2), (3, .int a3), (4, .int a4), (5, .int a5)]) hx hb dX11_copy_5 hl (by decide) rfl (fun ls hl => ?_)
  refine lv_aload_n hx hb dX11_copy_7 rfl (lv_at hl 1 rfl) ?_
  refine lv_iload_n hx hb dX11_copy_8 rfl (lv_at hl 3 rfl) ?_
  replace h := b2_eq h; obtain ⟨r_4, s_5, hc_6, h⟩ := h
  refine R_call (rest := []) [va_rf (Option.map (gL g) r_4)] (R_runV (n := 1) (As := [.int a2]) ⟨hx, hb, hml, hown, ht⟩ (fun _ h9 => h9) hK hZ hA hB (c_X11_shelfAt l g P s_2 a2 H.size hc_6) (R_recv hK hB (by decide) (cell_0 rfl) rfl) tw174 tw171 tw173 pw0 tw1 ⟨by decide, by decide, by decide⟩ rfl rfl ⟨Nat.le_of_ble_eq_true rfl, Nat.le_of_ble_eq_true rfl⟩ rfl hl.1 rfl (Nat.le_of_ble_eq_true rfl) dX11_copy_9 ⟨Nat.zero_le _, Nat.zero_le _⟩) hB hA rfl (fun H locs hB => ?_)
  refine lv_astoreR (lv' := [(7, va_rf (Option.map (gL g) r_4)), (6, va_rf (Option.map (gL g) r_1)), (0, .ref (gL g 0)), (1, .int a1), (2, .int a2), (3, .int a3), (4, .int a4), (5, .int a5)]) hx hb dX11_copy_12 hl (by decide) (by simp [va_rf_cat]) (fun ls hl => ?_)
  refine lv_aloadR hx hb dX11_copy_14 (lv_at hl 1 rfl) ?_
  rcases r_1 with _ | y_7
  · replace h := cs_n h
    have hl : lv_has ls 9 [(7, va_rf (Option.map (gL g) r_4)), (6, .null), (0, .ref (gL g 0)), (1, .int a1), (2, .int a2), (3, .int a3), (4, .int a4), (5, .int a5)] := hl
    refine lv_ifnullN (tgt := 24) hx hb dX11_copy_16 (by decide) ?_
    exact hb_24 s_5 H locs ls h hB (lv_sub hl [2] rfl)
  · replace h := cs_s h
    replace h := ck_eq h; obtain ⟨q_8, h⟩ := h
    have hl : lv_has ls 9 [(7, va_rf (Option.map (gL g) r_4)), (6, .ref (gL g y_7)), (0, .ref (gL g 0)), (1, .int a1), (2, .int a2), (3, .int a3), (4, .int a4), (5, .int a5)] := hl
    refine lv_ifnull hx hb dX11_copy_16 ?_
    refine lv_aloadR hx hb dX11_copy_19 (lv_at hl 0 rfl) ?_
    rcases r_4 with _ | y_12
    · replace h := cs_n h
      have hl : lv_has ls 9 [(7, .null), (6, .ref (gL g y_7)), (0, .ref (gL g 0)), (1, .int a1), (2, .int a2), (3, .int a3), (4, .int a4), (5, .int a5)] := hl
      refine lv_ifnonnullN hx hb dX11_copy_21 ?_
      exact hb_24 s_5 H locs ls h hB (lv_sub hl [2] rfl)
    · replace h := cs_s h
      replace h := ck_eq h; obtain ⟨q_13, h⟩ := h
      have hl : lv_has ls 9 [(7, .ref (gL g y_12)), (6, .ref (gL g y_7)), (0, .ref (gL g 0)), (1, .int a1), (2, .int a2), (3, .int a3), (4, .int a4), (5, .int a5)] := hl
      refine lv_ifnonnull (tgt := 30) hx hb dX11_copy_21 (by decide) ?_
      refine lv_aload hx hb dX11_copy_30 (lv_at hl 1 rfl) ?_
      refine R_get (v := .int (hI s_5 y_7 1)) hx hb ht ui_X5 hown hK hB (ky_in _ (by rw [q_8]; decide)) (cell_6 q_8) rfl 1 (by decide) (ht _ tw86) (fun _ h9 => h9) rfl dX11_copy_32 ?_
      refine lv_iconst (v := -1) hx hb dX11_copy_35 (by decide) ?_
      refine lv_icmp_eq (tgt := 52) hx hb dX11_copy_36 (by decide) (fun c_14 => ?_) (fun c_14 => ?_)
      · replace h := itp h c_14
        exact hb_52 a3 a4 a5 y_7 y_12 s_5 q_8 q_13 H locs ls h hB (lv_sub hl [2, 5, 6, 7, 1, 0] rfl)
      · replace h := itn h c_14
        refine lv_aload hx hb dX11_copy_39 (lv_at hl 0 rfl) ?_
        refine R_get (v := .int (hI s_5 y_12 1)) hx hb ht ui_X5 hown hK hB (ky_in _ (by rw [q_13]; decide)) (cell_6 q_13) rfl 1 (by decide) (ht _ tw86) (fun _ h9 => h9) rfl dX11_copy_41 ?_
        refine lv_iconst (v := -1) hx hb dX11_copy_44 (by decide) ?_
        refine lv_icmp_eq (tgt := 52) hx hb dX11_copy_45 (by decide) (fun c_42 => ?_) (fun c_42 => ?_)
        · replace h := itp h c_42
          exact hb_52 a3 a4 a5 y_7 y_12 s_5 q_8 q_13 H locs ls h hB (lv_sub hl [2, 5, 6, 7, 1, 0] rfl)
        · replace h := itn h c_42
          refine lv_iconst (v := 1) hx hb dX11_copy_48 (by decide) ?_
          refine lv_goto (tgt := 53) hx hb dX11_copy_49 (by decide) ?_
          exact hb_53 a3 a4 a5 y_7 y_12 (1 : Int32) s_5 q_8 q_13 H locs ls h hB (lv_sub hl [2, 5, 6, 7, 1, 0] rfl)
def f_X11_element (a1 : Int32) (a2 : Int32) (σ : Hp) : Option (Int64 × Hp) := b2 (f_X11_shelfAt a1 σ) (fun r_1 s_2 => cs r_1 (some ((0 : Int64), s_2)) (fun y_4 => ck (ky y_4 = 6) (b2 (f_X5_elementAt y_4 a2 s_2) (fun r_6 s_7 => some (r_6, s_7)))))
set_option maxHeartbeats 4000000 in
set_option maxRecDepth 100000 in
theorem c_X11_element (l : Launch) (g : tG) (P : Nat → Nat) (σ : Hp) (a1 : Int32) (a2 : Int32) (sz : Nat) {r : Int64} {τ : Hp} (h : f_X11_element a1 a2 σ = some (r, τ)) : Met l yX11_element (Cond.code yX11_element cX11_element 4 (some .long) :: tblG) ({ frames := 1, cells := 0, slots := 0, locals := 21 }) (va_Pc [.ref (gL g 0), .int a1, .int a2] (tPre g P σ sz)) (tQ (some (.long r)) (tPost g P τ (va_A (wC g P σ) sz)) (va_A (wC g P σ) sz)) 0 0 (va_A (wC g P σ) sz) := by
  refine T_start (B := fun A => tPost g P τ A) (by decide) (Nat.le_of_ble_eq_true rfl) ?_
  intro p e s m args below meth c ls0 A hx hb hml hr hown hlocks ht hnm hK hZ hA hB0 hl0
  suffices hmain : ∀ (H : Heap) (locs : List Loc) (ls : Array Slot), tB g P σ A s.heap H locs → lv_has ls 4 [(0, .ref (gL g 0)), (1, .int a1), (2, .int a2)] → WQ p l e { frames := 1, cells := 0, slots := 0, locals := 21 } s m args below meth c g P A (some (.long r)) τ H locs (F0 m 0 ls []) from hmain _ _ ls0 hB0 hl0
  intro H locs ls hB hl
  unfold f_X11_element at h
  refine lv_aload_n hx hb dX11_element_0 rfl (lv_at hl 0 rfl) ?_
  refine lv_iload_n hx hb dX11_element_1 rfl (lv_at hl 1 rfl) ?_
  replace h := b2_eq h; obtain ⟨r_1, s_2, hc_3, h⟩ := h
  refine R_call (rest := []) [va_rf (Option.map (gL g) r_1)] (R_runV (n := 1) (As := [.int a1]) ⟨hx, hb, hml, hown, ht⟩ (fun _ h9 => h9) hK hZ hA hB (c_X11_shelfAt l g P σ a1 H.size hc_3) (R_recv hK hB (by decide) (cell_0 rfl) rfl) tw174 tw171 tw173 pw0 tw1 ⟨by decide, by decide, by decide⟩ rfl rfl ⟨Nat.le_of_ble_eq_true rfl, Nat.le_of_ble_eq_true rfl⟩ rfl hl.1 rfl (Nat.le_of_ble_eq_true rfl) dX11_element_2 ⟨Nat.zero_le _, Nat.zero_le _⟩) hB hA rfl (fun H locs hB => ?_)
  refine lv_astore_nR (lv' := [(3, va_rf (Option.map (gL g) r_1)), (0, .ref (gL g 0)), (1, .int a1), (2, .int a2)]) hx hb dX11_element_5 rfl hl (by decide) rfl (fun ls hl => ?_)
  refine lv_aload_nR hx hb dX11_element_6 rfl (lv_at hl 0 rfl) ?_
  rcases r_1 with _ | y_4
  · replace h := cs_n h
    have hl : lv_has ls 4 [(3, .null), (0, .ref (gL g 0)), (1, .int a1), (2, .int a2)] := hl
    refine lv_ifnonnullN hx hb dX11_element_7 ?_
    refine lv_lconst (v := 0) hx hb dX11_element_10 (by decide) ?_
    refine lv_goto (tgt := 19) hx hb dX11_element_11 (by decide) ?_
    obtain ⟨rfl, rfl⟩ := Prod.mk.inj (Option.some.inj h)
    exact W.lret hx hb hr (R_end hB) hB.2.2.2.2 dX11_element_19
  · replace h := cs_s h
    replace h := ck_eq h; obtain ⟨q_5, h⟩ := h
    have hl : lv_has ls 4 [(3, .ref (gL g y_4)), (0, .ref (gL g 0)), (1, .int a1), (2, .int a2)] := hl
    refine lv_ifnonnull (tgt := 14) hx hb dX11_element_7 (by decide) ?_
    refine lv_aload_n hx hb dX11_element_14 rfl (lv_at hl 0 rfl) ?_
    refine lv_iload_n hx hb dX11_element_15 rfl (lv_at hl 3 rfl) ?_
    replace h := b2_eq h; obtain ⟨r_6, s_7, hc_8, h⟩ := h
    refine R_call (rest := []) [.long r_6] (R_runV (n := 1) (As := [.int a2]) ⟨hx, hb, hml, hown, ht⟩ (fun _ h9 => h9) hK hZ hA hB (c_X5_elementAt l g P s_2 y_4 a2 q_5 H.size hc_8) (R_recv hK hB (ky_in _ (by rw [q_5]; decide)) (cell_6 q_5) rfl) tw220 tw217 tw218 tw219 tw3 ⟨by decide, by decide, by decide⟩ rfl rfl ⟨Nat.le_of_ble_eq_true rfl, Nat.le_of_ble_eq_true rfl⟩ rfl hl.1 rfl (Nat.le_of_ble_eq_true rfl) dX11_element_16 ⟨Nat.zero_le _, Nat.zero_le _⟩) hB hA rfl (fun H locs hB => ?_)
    obtain ⟨rfl, rfl⟩ := Prod.mk.inj (Option.some.inj h)
    exact W.lret hx hb hr (R_end hB) hB.2.2.2.2 dX11_element_19
def f_X11_show_b26 (σ1 : Hp) : Option (Int32 × Hp) := b2 (f_X11_refuse (-1 : Int32) σ1) (fun r_6 s_7 => some (r_6, s_7))
def f_X11_show_b32 (x2 : Int32) (x3 : Nat) (σ1 : Hp) : Option (Int32 × Hp) := b2 (f_X5_holdLaw x3 x2 σ1) (fun r_10 s_11 => if x2 = (-1 : Int32) then some ((0 : Int32), s_11) else some ((1 : Int32), s_11))
def f_X11_show (a1 : Int32) (a2 : Int32) (σ : Hp) : Option (Int32 × Hp) := b2 (f_X11_shelfAt a1 σ) (fun r_1 s_2 => cs r_1 (f_X11_show_b26 s_2) (fun y_4 => ck (ky y_4 = 6) (if a2 = (-1 : Int32) then f_X11_show_b32 a2 y_4 s_2 else b2 (f_X7_lawAt 1 a2 s_2) (fun r_14 s_15 => cs r_14 (f_X11_show_b26 s_15) (fun y_17 => f_X11_show_b32 a2 y_4 s_15)))))
set_option maxHeartbeats 4000000 in
set_option maxRecDepth 100000 in
theorem c_X11_show (l : Launch) (g : tG) (P : Nat → Nat) (σ : Hp) (a1 : Int32) (a2 : Int32) (sz : Nat) {r : Int32} {τ : Hp} (h : f_X11_show a1 a2 σ = some (r, τ)) : Met l yX11_show (Cond.code yX11_show cX11_show 4 (some .int) :: tblG) ({ frames := 1, cells := 0, slots := 0, locals := 22 }) (va_Pc [.ref (gL g 0), .int a1, .int a2] (tPre g P σ sz)) (tQ (some (.int r)) (tPost g P τ (va_A (wC g P σ) sz)) (va_A (wC g P σ) sz)) 0 0 (va_A (wC g P σ) sz) := by
  refine T_start (B := fun A => tPost g P τ A) (by decide) (Nat.le_of_ble_eq_true rfl) ?_
  intro p e s m args below meth c ls0 A hx hb hml hr hown hlocks ht hnm hK hZ hA hB0 hl0
  have hb_26 : ∀ (σ1 : Hp) (H : Heap) (locs : List Loc) (ls : Array Slot), f_X11_show_b26 σ1 = some (r, τ) → tB g P σ1 A s.heap H locs → lv_has ls 4 [(0, .ref (gL g 0))] → WQ p l e { frames := 1, cells := 0, slots := 0, locals := 22 } s m args below meth c g P A (some (.int r)) τ H locs (F0 m 26 ls []) := by
    intro σ1 H locs ls h hB hl
    unfold f_X11_show_b26 at h
    refine lv_aload_n hx hb dX11_show_26 rfl (lv_at hl 0 rfl) ?_
    refine lv_iconst (v := -1) hx hb dX11_show_27 (by decide) ?_
    replace h := b2_eq h; obtain ⟨r_6, s_7, hc_8, h⟩ := h
    refine R_call (rest := []) [.int r_6] (R_runV (n := 1) (As := [.int (-1 : Int32)]) ⟨hx, hb, hml, hown, ht⟩ (fun _ h9 => h9) hK hZ hA hB (c_X11_refuse l g P σ1 (-1 : Int32) H.size hc_8) (R_recv hK hB (by decide) (cell_0 rfl) rfl) tw178 tw175 tw177 pw1 tw1 ⟨by decide, by decide, by decide⟩ rfl rfl ⟨Nat.le_of_ble_eq_true rfl, Nat.le_of_ble_eq_true rfl⟩ rfl hl.1 rfl (Nat.le_of_ble_eq_true rfl) dX11_show_28 ⟨Nat.zero_le _, Nat.zero_le _⟩) hB hA rfl (fun H locs hB => ?_)
    obtain ⟨rfl, rfl⟩ := Prod.mk.inj (Option.some.inj h)
    exact W.iret hx hb hr (R_end hB) hB.2.2.2.2 dX11_show_31
  have hb_32 : ∀ (x2 : Int32) (x3 : Nat) (σ1 : Hp) (hk_x3 : ky x3 = 6) (H : Heap) (locs : List Loc) (ls : Array Slot), f_X11_show_b32 x2 x3 σ1 = some (r, τ) → tB g P σ1 A s.heap H locs → lv_has ls 4 [(2, .int x2), (3, .ref (gL g x3))] → WQ p l e { frames := 1, cells := 0, slots := 0, locals := 22 } s m args below meth c g P A (some (.int r)) τ H locs (F0 m 32 ls []) := by
    intro x2 x3 σ1 hk_x3 H locs ls h hB hl
    unfold f_X11_show_b32 at h
    refine lv_aload_n hx hb dX11_show_32 rfl (lv_at hl 1 rfl) ?_
    refine lv_iload_n hx hb dX11_show_33 rfl (lv_at hl 0 rfl) ?_
    replace h := b2_eq h; obtain ⟨r_10, s_11, hc_12, h⟩ := h
    refine R_call (rest := []) [] (R_runV (n := 1) (As := [.int x2]) ⟨hx, hb, hml, hown, ht⟩ (fun _ h9 => h9) hK hZ hA hB (c_X5_holdLaw l g P σ1 x3 x2 hk_x3 H.size hc_12) (R_recv hK hB (ky_in _ (by rw [hk_x3]; decide)) (cell_6 hk_x3) rfl) tw232 tw229 tw230 tw231 tw3 ⟨by decide, by decide, by decide⟩ rfl rfl ⟨Nat.le_of_ble_eq_true rfl, Nat.le_of_ble_eq_true rfl⟩ rfl hl.1 rfl (Nat.le_of_ble_eq_true rfl) dX11_show_34 ⟨Nat.zero_le _, Nat.zero_le _⟩) hB hA rfl (fun H locs hB => ?_)
    refine lv_iload_n hx hb dX11_show_37 rfl (lv_at hl 0 rfl) ?_
    refine lv_iconst (v := -1) hx hb dX11_show_38 (by decide) ?_
    refine lv_icmp_ne (tgt := 46) hx hb dX11_show_39 (by decide) (fun c_13 => ?_) (fun c_13 => ?_)
    · replace h := itn h c_13
      refine lv_iconst (v := 1) hx hb dX11_show_46 (by decide) ?_
      obtain ⟨rfl, rfl⟩ := Prod.mk.inj (Option.some.inj h)
      exact W.iret hx hb hr (R_end hB) hB.2.2.2.2 dX11_show_47
    · replace h := itp h c_13
      refine lv_iconst (v := 0) hx hb dX11_show_42 (by decide) ?_
      refine lv_goto (tgt := 47) hx hb dX11_show_43 (by decide) ?_
      obtain ⟨rfl, rfl⟩ := Prod.mk.inj (Option.some.inj h)
      exact W.iret hx hb hr (R_end hB) hB.2.2.2.2 dX11_show_47
  suffices hmain : ∀ (H : Heap) (locs : List Loc) (ls : Array Slot), tB g P σ A s.heap H locs → lv_has ls 4 [(0, .ref (gL g 0)), (1, .int a1), (2, .int a2)] → WQ p l e { frames := 1, cells := 0, slots := 0, locals := 22 } s m args below meth c g P A (some (.int r)) τ H locs (F0 m 0 ls []) from hmain _ _ ls0 hB0 hl0
  intro H locs ls hB hl
  unfold f_X11_show at h
  refine lv_aload_n hx hb dX11_show_0 rfl (lv_at hl 0 rfl) ?_
  refine lv_iload_n hx hb dX11_show_1 rfl (lv_at hl 1 rfl) ?_
  replace h := b2_eq h; obtain ⟨r_1, s_2, hc_3, h⟩ := h
  refine R_call (rest := []) [va_rf (Option.map (gL g) r_1)] (R_runV (n := 1) (As := [.int a1]) ⟨hx, hb, hml, hown, ht⟩ (fun _ h9 => h9) hK hZ hA hB (c_X11_shelfAt l g P σ a1 H.size hc_3) (R_recv hK hB (by decide) (cell_0 rfl) rfl) tw174 tw171 tw173 pw0 tw1 ⟨by decide, by decide, by decide⟩ rfl rfl ⟨Nat.le_of_ble_eq_true rfl, Nat.le_of_ble_eq_true rfl⟩ rfl hl.1 rfl (Nat.le_of_ble_eq_true rfl) dX11_show_2 ⟨Nat.zero_le _, Nat.zero_le _⟩) hB hA rfl (fun H locs hB => ?_)
  refine lv_astore_nR (lv' := [(3, va_rf (Option.map (gL g) r_1)), (0, .ref (gL g 0)), (1, .int a1), (2, .int a2)]) hx hb dX11_show_5 rfl hl (by decide) rfl (fun ls hl => ?_)
  refine lv_aload_nR hx hb dX11_show_6 rfl (lv_at hl 0 rfl) ?_
  rcases r_1 with _ | y_4
  · replace h := cs_n h
    have hl : lv_has ls 4 [(3, .null), (0, .ref (gL g 0)), (1, .int a1), (2, .int a2)] := hl
    refine lv_ifnullN (tgt := 26) hx hb dX11_show_7 (by decide) ?_
    exact hb_26 s_2 H locs ls h hB (lv_sub hl [1] rfl)
  · replace h := cs_s h
    replace h := ck_eq h; obtain ⟨q_5, h⟩ := h
    have hl : lv_has ls 4 [(3, .ref (gL g y_4)), (0, .ref (gL g 0)), (1, .int a1), (2, .int a2)] := hl
    refine lv_ifnull hx hb dX11_show_7 ?_
    refine lv_iload_n hx hb dX11_show_10 rfl (lv_at hl 3 rfl) ?_
    refine lv_iconst (v := -1) hx hb dX11_show_11 (by decide) ?_
    refine lv_icmp_eq (tgt := 32) hx hb dX11_show_12 (by decide) (fun c_9 => ?_) (fun c_9 => ?_)
    · replace h := itp h c_9
      exact hb_32 a2 y_4 s_2 q_5 H locs ls h hB (lv_sub hl [3, 0] rfl)
    · replace h := itn h c_9
      refine lv_aload_n hx hb dX11_show_15 rfl (lv_at hl 1 rfl) ?_
      refine R_get (v := .ref (gL g 1)) hx hb ht ui_X11 hown hK hB (by decide) (cell_0 rfl) rfl 0 (by decide) (ht _ tw130) (fun _ h9 => h9) rfl dX11_show_16 ?_
      refine lv_iload_n hx hb dX11_show_19 rfl (lv_at hl 3 rfl) ?_
      replace h := b2_eq h; obtain ⟨r_14, s_15, hc_16, h⟩ := h
      refine R_call (rest := []) [va_rf (Option.map P r_14)] (R_runV (n := 1) (As := [.int a2]) ⟨hx, hb, hml, hown, ht⟩ (fun _ h9 => h9) hK hZ hA hB (c_X7_lawAt l g P s_2 1 a2 rfl H.size hc_16) (R_recv hK hB (by decide) (cell_1 rfl) rfl) tw228 tw225 tw226 tw227 tw2 ⟨by decide, by decide, by decide⟩ rfl rfl ⟨Nat.le_of_ble_eq_true rfl, Nat.le_of_ble_eq_true rfl⟩ rfl hl.1 rfl (Nat.le_of_ble_eq_true rfl) dX11_show_20 ⟨Nat.zero_le _, Nat.zero_le _⟩) hB hA rfl (fun H locs hB => ?_)
      rcases r_14 with _ | y_17
      · replace h := cs_n h
        have hl : lv_has ls 4 [(3, .ref (gL g y_4)), (0, .ref (gL g 0)), (1, .int a1), (2, .int a2)] := hl
        refine lv_ifnonnullN hx hb dX11_show_23 ?_
        exact hb_26 s_15 H locs ls h hB (lv_sub hl [1] rfl)
      · replace h := cs_s h
        have hl : lv_has ls 4 [(3, .ref (gL g y_4)), (0, .ref (gL g 0)), (1, .int a1), (2, .int a2)] := hl
        refine lv_ifnonnull (tgt := 32) hx hb dX11_show_23 (by decide) ?_
        exact hb_32 a2 y_4 s_15 q_5 H locs ls h hB (lv_sub hl [3, 0] rfl)
def f_X11_holds (a1 : Int32) (σ : Hp) : Option (Int32 × Hp) := b2 (f_X11_shelfAt a1 σ) (fun r_1 s_2 => cs r_1 (some ((-1 : Int32), s_2)) (fun y_4 => ck (ky y_4 = 6) (if (hI s_2 y_4 1) = (-1 : Int32) then some ((hI s_2 y_4 3), s_2) else some (((100 : Int32) + (hI s_2 y_4 1)), s_2))))
set_option maxHeartbeats 4000000 in
set_option maxRecDepth 100000 in
theorem c_X11_holds (l : Launch) (g : tG) (P : Nat → Nat) (σ : Hp) (a1 : Int32) (sz : Nat) {r : Int32} {τ : Hp} (h : f_X11_holds a1 σ = some (r, τ)) : Met l yX11_holds (Cond.code yX11_holds cX11_holds 3 (some .int) :: tblG) ({ frames := 1, cells := 0, slots := 0, locals := 21 }) (va_Pc [.ref (gL g 0), .int a1] (tPre g P σ sz)) (tQ (some (.int r)) (tPost g P τ (va_A (wC g P σ) sz)) (va_A (wC g P σ) sz)) 0 0 (va_A (wC g P σ) sz) := by
  refine T_start (B := fun A => tPost g P τ A) (by decide) (Nat.le_of_ble_eq_true rfl) ?_
  intro p e s m args below meth c ls0 A hx hb hml hr hown hlocks ht hnm hK hZ hA hB0 hl0
  suffices hmain : ∀ (H : Heap) (locs : List Loc) (ls : Array Slot), tB g P σ A s.heap H locs → lv_has ls 3 [(0, .ref (gL g 0)), (1, .int a1)] → WQ p l e { frames := 1, cells := 0, slots := 0, locals := 21 } s m args below meth c g P A (some (.int r)) τ H locs (F0 m 0 ls []) from hmain _ _ ls0 hB0 hl0
  intro H locs ls hB hl
  unfold f_X11_holds at h
  refine lv_aload_n hx hb dX11_holds_0 rfl (lv_at hl 0 rfl) ?_
  refine lv_iload_n hx hb dX11_holds_1 rfl (lv_at hl 1 rfl) ?_
  replace h := b2_eq h; obtain ⟨r_1, s_2, hc_3, h⟩ := h
  refine R_call (rest := []) [va_rf (Option.map (gL g) r_1)] (R_runV (n := 1) (As := [.int a1]) ⟨hx, hb, hml, hown, ht⟩ (fun _ h9 => h9) hK hZ hA hB (c_X11_shelfAt l g P σ a1 H.size hc_3) (R_recv hK hB (by decide) (cell_0 rfl) rfl) tw174 tw171 tw173 pw0 tw1 ⟨by decide, by decide, by decide⟩ rfl rfl ⟨Nat.le_of_ble_eq_true rfl, Nat.le_of_ble_eq_true rfl⟩ rfl hl.1 rfl (Nat.le_of_ble_eq_true rfl) dX11_holds_2 ⟨Nat.zero_le _, Nat.zero_le _⟩) hB hA rfl (fun H locs hB => ?_)
  refine lv_astore_nR (lv' := [(2, va_rf (Option.map (gL g) r_1)), (0, .ref (gL g 0)), (1, .int a1)]) hx hb dX11_holds_5 rfl hl (by decide) rfl (fun ls hl => ?_)
  refine lv_aload_nR hx hb dX11_holds_6 rfl (lv_at hl 0 rfl) ?_
  rcases r_1 with _ | y_4
  · replace h := cs_n h
    have hl : lv_has ls 3 [(2, .null), (0, .ref (gL g 0)), (1, .int a1)] := hl
    refine lv_ifnonnullN hx hb dX11_holds_7 ?_
    refine lv_iconst (v := -1) hx hb dX11_holds_10 (by decide) ?_
    obtain ⟨rfl, rfl⟩ := Prod.mk.inj (Option.some.inj h)
    exact W.iret hx hb hr (R_end hB) hB.2.2.2.2 dX11_holds_11
  · replace h := cs_s h
    replace h := ck_eq h; obtain ⟨q_5, h⟩ := h
    have hl : lv_has ls 3 [(2, .ref (gL g y_4)), (0, .ref (gL g 0)), (1, .int a1)] := hl
    refine lv_ifnonnull (tgt := 12) hx hb dX11_holds_7 (by decide) ?_
    refine lv_aload_n hx hb dX11_holds_12 rfl (lv_at hl 0 rfl) ?_
    refine R_get (v := .int (hI s_2 y_4 1)) hx hb ht ui_X5 hown hK hB (ky_in _ (by rw [q_5]; decide)) (cell_6 q_5) rfl 1 (by decide) (ht _ tw86) (fun _ h9 => h9) rfl dX11_holds_13 ?_
    refine lv_iconst (v := -1) hx hb dX11_holds_16 (by decide) ?_
    refine lv_icmp_ne (tgt := 27) hx hb dX11_holds_17 (by decide) (fun c_6 => ?_) (fun c_6 => ?_)
    · replace h := itn h c_6
      refine lv_bipush (v := 100) hx hb dX11_holds_27 (by decide) ?_
      refine lv_aload_n hx hb dX11_holds_29 rfl (lv_at hl 0 rfl) ?_
      refine R_get (v := .int (hI s_2 y_4 1)) hx hb ht ui_X5 hown hK hB (ky_in _ (by rw [q_5]; decide)) (cell_6 q_5) rfl 1 (by decide) (ht _ tw86) (fun _ h9 => h9) rfl dX11_holds_30 ?_
      refine lv_iadd hx hb dX11_holds_33 ?_
      obtain ⟨rfl, rfl⟩ := Prod.mk.inj (Option.some.inj h)
      exact W.iret hx hb hr (R_end hB) hB.2.2.2.2 dX11_holds_34
    · replace h := itp h c_6
      refine lv_aload_n hx hb dX11_holds_20 rfl (lv_at hl 0 rfl) ?_
      refine R_get (v := .int (hI s_2 y_4 3)) hx hb ht ui_X5 hown hK hB (ky_in _ (by rw [q_5]; decide)) (cell_6 q_5) rfl 3 (by decide) (ht _ tw91) (fun _ h9 => h9) rfl dX11_holds_21 ?_
      refine lv_goto (tgt := 34) hx hb dX11_holds_24 (by decide) ?_
      obtain ⟨rfl, rfl⟩ := Prod.mk.inj (Option.some.inj h)
      exact W.iret hx hb hr (R_end hB) hB.2.2.2.2 dX11_holds_34
def f_X11_saying (j1 : Nat) (a2 : Int32) (σ : Hp) : Option (Int32 × Hp) := if a2 = 1 then ck (isLaw σ j1 = true) (b2 (v_onward j1 (100 : Int64) 1 σ) (fun r_3 s_4 => some (r_3.toInt32, s_4))) else (if a2 = 2 then ck (isLaw σ j1 = true) (b2 (v_onward j1 (99 : Int64) 1 σ) (fun r_8 s_9 => some (r_8.toInt32, s_9))) else (if a2 = 3 then ck (isLaw σ j1 = true) (b2 (v_onward j1 (495 : Int64) 1 σ) (fun r_13 s_14 => some (r_13.toInt32, s_14))) else (if a2 = 4 then ck (isLaw σ j1 = true) (b2 (v_onward j1 (77 : Int64) 1 σ) (fun r_18 s_19 => some (r_18.toInt32, s_19))) else (if a2 = 5 then ck (isLaw σ j1 = true) (b2 (f_X7_dearestFigure 1 (hI σ (100 + j1) 0) σ) (fun r_23 s_24 => some (r_23, s_24))) else (if a2 = 6 then ck (isLaw σ j1 = true) (b2 (v_onward j1 (12 : Int64) 1 σ) (fun r_28 s_29 => some (r_28.toInt32, s_29))) else (ck (isLaw σ j1 = true) (some ((hI σ (100 + j1) 1), σ))))))))
set_option maxHeartbeats 4000000 in
set_option maxRecDepth 100000 in
theorem c_X11_saying (l : Launch) (g : tG) (P : Nat → Nat) (σ : Hp) (j1 : Nat) (a2 : Int32) (sz : Nat) {r : Int32} {τ : Hp} (h : f_X11_saying j1 a2 σ = some (r, τ)) : Met l yX11_saying (Cond.code yX11_saying cX11_saying 3 (some .int) :: tblG) ({ frames := 3, cells := 0, slots := 0, locals := 85 }) (va_Pc [.ref (gL g 0), .ref (P j1), .int a2] (tPre g P σ sz)) (tQ (some (.int r)) (tPost g P τ (va_A (wC g P σ) sz)) (va_A (wC g P σ) sz)) 0 0 (va_A (wC g P σ) sz) := by
  refine T_start (B := fun A => tPost g P τ A) (by decide) (Nat.le_of_ble_eq_true rfl) ?_
  intro p e s m args below meth c ls0 A hx hb hml hr hown hlocks ht hnm hK hZ hA hB0 hl0
  suffices hmain : ∀ (H : Heap) (locs : List Loc) (ls : Array Slot), tB g P σ A s.heap H locs → lv_has ls 3 [(0, .ref (gL g 0)), (1, .ref (P j1)), (2, .int a2)] → WQ p l e { frames := 3, cells := 0, slots := 0, locals := 85 } s m args below meth c g P A (some (.int r)) τ H locs (F0 m 0 ls []) from hmain _ _ ls0 hB0 hl0
  intro H locs ls hB hl
  unfold f_X11_saying at h
  refine lv_iload_n hx hb dX11_saying_0 rfl (lv_at hl 2 rfl) ?_
  by_cases c_1 : a2 = 1
  · replace h := itp h c_1
    refine lv_tableIn (tgt := 40) hx hb dX11_saying_1 (by rw [c_1]; decide) (by rw [c_1]; decide) (by rw [c_1]; rfl) (by decide) ?_
    refine lv_aload_n hx hb dX11_saying_40 rfl (lv_at hl 1 rfl) ?_
    refine lv_ldc2 (v := 100) hx hb hown (ht _ tw280) dX11_saying_41 ?_
    refine lv_aload_n hx hb dX11_saying_44 rfl (lv_at hl 0 rfl) ?_
    refine R_get (v := .ref (gL g 1)) hx hb ht ui_X11 hown hK hB (by decide) (cell_0 rfl) rfl 0 (by decide) (ht _ tw130) (fun _ h9 => h9) rfl dX11_saying_45 ?_
    replace h := ck_eq h; obtain ⟨q_2, h⟩ := h
    replace h := b2_eq h; obtain ⟨r_3, s_4, hc_5, h⟩ := h
    refine R_call (rest := []) [.long r_3] (dv_onward ⟨hx, hb, hml, hown, ht⟩ hK hZ hA hB q_2 rfl tw281 hc_5 (Nat.le_of_ble_eq_true rfl) (Nat.le_of_ble_eq_true rfl) hl.1 rfl (Nat.le_of_ble_eq_true rfl) dX11_saying_48 (Nat.zero_le _) (Nat.zero_le _)) hB hA rfl (fun H locs hB => ?_)
    refine lv_l2i (v := r_3.toInt32) hx hb dX11_saying_51 rfl ?_
    obtain ⟨rfl, rfl⟩ := Prod.mk.inj (Option.some.inj h)
    exact W.iret hx hb hr (R_end hB) hB.2.2.2.2 dX11_saying_52
  · replace h := itn h c_1
    by_cases c_6 : a2 = 2
    · replace h := itp h c_6
      refine lv_tableIn (tgt := 53) hx hb dX11_saying_1 (by rw [c_6]; decide) (by rw [c_6]; decide) (by rw [c_6]; rfl) (by decide) ?_
      refine lv_aload_n hx hb dX11_saying_53 rfl (lv_at hl 1 rfl) ?_
      refine lv_ldc2 (v := 99) hx hb hown (ht _ tw340) dX11_saying_54 ?_
      refine lv_aload_n hx hb dX11_saying_57 rfl (lv_at hl 0 rfl) ?_
      refine R_get (v := .ref (gL g 1)) hx hb ht ui_X11 hown hK hB (by decide) (cell_0 rfl) rfl 0 (by decide) (ht _ tw130) (fun _ h9 => h9) rfl dX11_saying_58 ?_
      replace h := ck_eq h; obtain ⟨q_7, h⟩ := h
      replace h := b2_eq h; obtain ⟨r_8, s_9, hc_10, h⟩ := h
      refine R_call (rest := []) [.long r_8] (dv_onward ⟨hx, hb, hml, hown, ht⟩ hK hZ hA hB q_7 rfl tw281 hc_10 (Nat.le_of_ble_eq_true rfl) (Nat.le_of_ble_eq_true rfl) hl.1 rfl (Nat.le_of_ble_eq_true rfl) dX11_saying_61 (Nat.zero_le _) (Nat.zero_le _)) hB hA rfl (fun H locs hB => ?_)
      refine lv_l2i (v := r_8.toInt32) hx hb dX11_saying_64 rfl ?_
      obtain ⟨rfl, rfl⟩ := Prod.mk.inj (Option.some.inj h)
      exact W.iret hx hb hr (R_end hB) hB.2.2.2.2 dX11_saying_65
    · replace h := itn h c_6
      by_cases c_11 : a2 = 3
      · replace h := itp h c_11
        refine lv_tableIn (tgt := 79) hx hb dX11_saying_1 (by rw [c_11]; decide) (by rw [c_11]; decide) (by rw [c_11]; rfl) (by decide) ?_
        refine lv_aload_n hx hb dX11_saying_79 rfl (lv_at hl 1 rfl) ?_
        refine lv_ldc2 (v := 495) hx hb hown (ht _ tw342) dX11_saying_80 ?_
        refine lv_aload_n hx hb dX11_saying_83 rfl (lv_at hl 0 rfl) ?_
        refine R_get (v := .ref (gL g 1)) hx hb ht ui_X11 hown hK hB (by decide) (cell_0 rfl) rfl 0 (by decide) (ht _ tw130) (fun _ h9 => h9) rfl dX11_saying_84 ?_
        replace h := ck_eq h; obtain ⟨q_12, h⟩ := h
        replace h := b2_eq h; obtain ⟨r_13, s_14, hc_15, h⟩ := h
        refine R_call (rest := []) [.long r_13] (dv_onward ⟨hx, hb, hml, hown, ht⟩ hK hZ hA hB q_12 rfl tw281 hc_15 (Nat.le_of_ble_eq_true rfl) (Nat.le_of_ble_eq_true rfl) hl.1 rfl (Nat.le_of_ble_eq_true rfl) dX11_saying_87 (Nat.zero_le _) (Nat.zero_le _)) hB hA rfl (fun H locs hB => ?_)
        refine lv_l2i (v := r_13.toInt32) hx hb dX11_saying_90 rfl ?_
        obtain ⟨rfl, rfl⟩ := Prod.mk.inj (Option.some.inj h)
        exact W.iret hx hb hr (R_end hB) hB.2.2.2.2 dX11_saying_91
      · replace h := itn h c_11
        by_cases c_16 : a2 = 4
        · replace h := itp h c_16
          refine lv_tableIn (tgt := 66) hx hb dX11_saying_1 (by rw [c_16]; decide) (by rw [c_16]; decide) (by rw [c_16]; rfl) (by decide) ?_
          refine lv_aload_n hx hb dX11_saying_66 rfl (lv_at hl 1 rfl) ?_
          refine lv_ldc2 (v := 77) hx hb hown (ht _ tw341) dX11_saying_67 ?_
          refine lv_aload_n hx hb dX11_saying_70 rfl (lv_at hl 0 rfl) ?_
          refine R_get (v := .ref (gL g 1)) hx hb ht ui_X11 hown hK hB (by decide) (cell_0 rfl) rfl 0 (by decide) (ht _ tw130) (fun _ h9 => h9) rfl dX11_saying_71 ?_
          replace h := ck_eq h; obtain ⟨q_17, h⟩ := h
          replace h := b2_eq h; obtain ⟨r_18, s_19, hc_20, h⟩ := h
          refine R_call (rest := []) [.long r_18] (dv_onward ⟨hx, hb, hml, hown, ht⟩ hK hZ hA hB q_17 rfl tw281 hc_20 (Nat.le_of_ble_eq_true rfl) (Nat.le_of_ble_eq_true rfl) hl.1 rfl (Nat.le_of_ble_eq_true rfl) dX11_saying_74 (Nat.zero_le _) (Nat.zero_le _)) hB hA rfl (fun H locs hB => ?_)
          refine lv_l2i (v := r_18.toInt32) hx hb dX11_saying_77 rfl ?_
          obtain ⟨rfl, rfl⟩ := Prod.mk.inj (Option.some.inj h)
          exact W.iret hx hb hr (R_end hB) hB.2.2.2.2 dX11_saying_78
        · replace h := itn h c_16
          by_cases c_21 : a2 = 5
          · replace h := itp h c_21
            refine lv_tableIn (tgt := 92) hx hb dX11_saying_1 (by rw [c_21]; decide) (by rw [c_21]; decide) (by rw [c_21]; rfl) (by decide) ?_
            refine lv_aload_n hx hb dX11_saying_92 rfl (lv_at hl 0 rfl) ?_
            refine R_get (v := .ref (gL g 1)) hx hb ht ui_X11 hown hK hB (by decide) (cell_0 rfl) rfl 0 (by decide) (ht _ tw130) (fun _ h9 => h9) rfl dX11_saying_93 ?_
            refine lv_aload_n hx hb dX11_saying_96 rfl (lv_at hl 1 rfl) ?_
            replace h := ck_eq h; obtain ⟨q_22, h⟩ := h
            refine R_getP0 hx hb ht hown hK hB q_22 (ht _ tw382) (fun _ h9 => h9) dX11_saying_97 ?_
            replace h := b2_eq h; obtain ⟨r_23, s_24, hc_25, h⟩ := h
            refine R_call (rest := []) [.int r_23] (R_runV (n := 1) (As := [.int (hI σ (100 + j1) 0)]) ⟨hx, hb, hml, hown, ht⟩ (fun _ h9 => h9) hK hZ hA hB (c_X7_dearestFigure l g P σ 1 (hI σ (100 + j1) 0) rfl H.size hc_25) (R_recv hK hB (by decide) (cell_1 rfl) rfl) tw346 tw343 tw344 tw345 tw2 ⟨by decide, by decide, by decide⟩ rfl rfl ⟨Nat.le_of_ble_eq_true rfl, Nat.le_of_ble_eq_true rfl⟩ rfl hl.1 rfl (Nat.le_of_ble_eq_true rfl) dX11_saying_100 ⟨Nat.zero_le _, Nat.zero_le _⟩) hB hA rfl (fun H locs hB => ?_)
            obtain ⟨rfl, rfl⟩ := Prod.mk.inj (Option.some.inj h)
            exact W.iret hx hb hr (R_end hB) hB.2.2.2.2 dX11_saying_103
          · replace h := itn h c_21
            by_cases c_26 : a2 = 6
            · replace h := itp h c_26
              refine lv_tableIn (tgt := 104) hx hb dX11_saying_1 (by rw [c_26]; decide) (by rw [c_26]; decide) (by rw [c_26]; rfl) (by decide) ?_
              refine lv_aload_n hx hb dX11_saying_104 rfl (lv_at hl 1 rfl) ?_
              refine lv_ldc2 (v := 12) hx hb hown (ht _ tw348) dX11_saying_105 ?_
              refine lv_aload_n hx hb dX11_saying_108 rfl (lv_at hl 0 rfl) ?_
              refine R_get (v := .ref (gL g 1)) hx hb ht ui_X11 hown hK hB (by decide) (cell_0 rfl) rfl 0 (by decide) (ht _ tw130) (fun _ h9 => h9) rfl dX11_saying_109 ?_
              replace h := ck_eq h; obtain ⟨q_27, h⟩ := h
              replace h := b2_eq h; obtain ⟨r_28, s_29, hc_30, h⟩ := h
              refine R_call (rest := []) [.long r_28] (dv_onward ⟨hx, hb, hml, hown, ht⟩ hK hZ hA hB q_27 rfl tw281 hc_30 (Nat.le_of_ble_eq_true rfl) (Nat.le_of_ble_eq_true rfl) hl.1 rfl (Nat.le_of_ble_eq_true rfl) dX11_saying_112 (Nat.zero_le _) (Nat.zero_le _)) hB hA rfl (fun H locs hB => ?_)
              refine lv_l2i (v := r_28.toInt32) hx hb dX11_saying_115 rfl ?_
              obtain ⟨rfl, rfl⟩ := Prod.mk.inj (Option.some.inj h)
              exact W.iret hx hb hr (R_end hB) hB.2.2.2.2 dX11_saying_116
            · replace h := itn h c_26
              refine lv_tableOut (tgt := 117) hx hb dX11_saying_1 (sw_out (lo := 1) (hi := 6) (by decide) (by decide) (fun k h1 h2 => by rcases (show k = 1 ∨ k = 2 ∨ k = 3 ∨ k = 4 ∨ k = 5 ∨ k = 6 by omega) with rfl | rfl | rfl | rfl | rfl | rfl <;> assumption)) (by decide) ?_
              refine lv_aload_n hx hb dX11_saying_117 rfl (lv_at hl 1 rfl) ?_
              replace h := ck_eq h; obtain ⟨q_31, h⟩ := h
              refine R_getP1 hx hb ht hown hK hB q_31 (ht _ tw390) (fun _ h9 => h9) dX11_saying_118 ?_
              obtain ⟨rfl, rfl⟩ := Prod.mk.inj (Option.some.inj h)
              exact W.iret hx hb hr (R_end hB) hB.2.2.2.2 dX11_saying_121
def f_X11_says_b20 (σ1 : Hp) : Option (Int32 × Hp) := b2 (f_X11_refuse (-1 : Int32) σ1) (fun r_6 s_7 => some (r_6, s_7))
def f_X11_says (a1 : Int32) (a2 : Int32) (σ : Hp) : Option (Int32 × Hp) := b2 (f_X11_shelfAt a1 σ) (fun r_1 s_2 => cs r_1 (f_X11_says_b20 s_2) (fun y_4 => ck (ky y_4 = 6) (if a2 < 0 then f_X11_says_b20 s_2 else if a2 ≤ (6 : Int32) then if (hI s_2 y_4 1) = (-1 : Int32) then b2 (f_X7_lawAt 1 (hI s_2 y_4 3) s_2) (fun r_12 s_13 => cs r_12 (b2 (f_X11_refuse (-3 : Int32) s_13) (fun r_16 s_17 => some (r_16, s_17))) (fun y_15 => ck (isLaw s_13 y_15 = true) (b2 (v_isUnder y_15 a2 s_13) (fun r_20 s_21 => if r_20 = 0 then b2 (f_X11_refuse (-2 : Int32) s_21) (fun r_27 s_28 => some (r_27, s_28)) else b2 (f_X11_saying y_15 a2 s_21) (fun r_24 s_25 => some (r_24, s_25)))))) else b2 (f_X11_refuse (-2 : Int32) s_2) (fun r_30 s_31 => some (r_30, s_31)) else f_X11_says_b20 s_2)))
set_option maxHeartbeats 4000000 in
set_option maxRecDepth 100000 in
theorem c_X11_says (l : Launch) (g : tG) (P : Nat → Nat) (σ : Hp) (a1 : Int32) (a2 : Int32) (sz : Nat) {r : Int32} {τ : Hp} (h : f_X11_says a1 a2 σ = some (r, τ)) : Met l yX11_says (Cond.code yX11_says cX11_says 5 (some .int) :: tblG) ({ frames := 4, cells := 0, slots := 0, locals := 107 }) (va_Pc [.ref (gL g 0), .int a1, .int a2] (tPre g P σ sz)) (tQ (some (.int r)) (tPost g P τ (va_A (wC g P σ) sz)) (va_A (wC g P σ) sz)) 0 0 (va_A (wC g P σ) sz) := by
  refine T_start (B := fun A => tPost g P τ A) (by decide) (Nat.le_of_ble_eq_true rfl) ?_
  intro p e s m args below meth c ls0 A hx hb hml hr hown hlocks ht hnm hK hZ hA hB0 hl0
  have hb_20 : ∀ (σ1 : Hp) (H : Heap) (locs : List Loc) (ls : Array Slot), f_X11_says_b20 σ1 = some (r, τ) → tB g P σ1 A s.heap H locs → lv_has ls 5 [(0, .ref (gL g 0))] → WQ p l e { frames := 4, cells := 0, slots := 0, locals := 107 } s m args below meth c g P A (some (.int r)) τ H locs (F0 m 20 ls []) := by
    intro σ1 H locs ls h hB hl
    unfold f_X11_says_b20 at h
    refine lv_aload_n hx hb dX11_says_20 rfl (lv_at hl 0 rfl) ?_
    refine lv_iconst (v := -1) hx hb dX11_says_21 (by decide) ?_
    replace h := b2_eq h; obtain ⟨r_6, s_7, hc_8, h⟩ := h
    refine R_call (rest := []) [.int r_6] (R_runV (n := 1) (As := [.int (-1 : Int32)]) ⟨hx, hb, hml, hown, ht⟩ (fun _ h9 => h9) hK hZ hA hB (c_X11_refuse l g P σ1 (-1 : Int32) H.size hc_8) (R_recv hK hB (by decide) (cell_0 rfl) rfl) tw178 tw175 tw177 pw1 tw1 ⟨by decide, by decide, by decide⟩ rfl rfl ⟨Nat.le_of_ble_eq_true rfl, Nat.le_of_ble_eq_true rfl⟩ rfl hl.1 rfl (Nat.le_of_ble_eq_true rfl) dX11_says_22 ⟨Nat.zero_le _, Nat.zero_le _⟩) hB hA rfl (fun H locs hB => ?_)
    obtain ⟨rfl, rfl⟩ := Prod.mk.inj (Option.some.inj h)
    exact W.iret hx hb hr (R_end hB) hB.2.2.2.2 dX11_says_25
  suffices hmain : ∀ (H : Heap) (locs : List Loc) (ls : Array Slot), tB g P σ A s.heap H locs → lv_has ls 5 [(0, .ref (gL g 0)), (1, .int a1), (2, .int a2)] → WQ p l e { frames := 4, cells := 0, slots := 0, locals := 107 } s m args below meth c g P A (some (.int r)) τ H locs (F0 m 0 ls []) from hmain _ _ ls0 hB0 hl0
  intro H locs ls hB hl
  unfold f_X11_says at h
  refine lv_aload_n hx hb dX11_says_0 rfl (lv_at hl 0 rfl) ?_
  refine lv_iload_n hx hb dX11_says_1 rfl (lv_at hl 1 rfl) ?_
  replace h := b2_eq h; obtain ⟨r_1, s_2, hc_3, h⟩ := h
  refine R_call (rest := []) [va_rf (Option.map (gL g) r_1)] (R_runV (n := 1) (As := [.int a1]) ⟨hx, hb, hml, hown, ht⟩ (fun _ h9 => h9) hK hZ hA hB (c_X11_shelfAt l g P σ a1 H.size hc_3) (R_recv hK hB (by decide) (cell_0 rfl) rfl) tw174 tw171 tw173 pw0 tw1 ⟨by decide, by decide, by decide⟩ rfl rfl ⟨Nat.le_of_ble_eq_true rfl, Nat.le_of_ble_eq_true rfl⟩ rfl hl.1 rfl (Nat.le_of_ble_eq_true rfl) dX11_says_2 ⟨Nat.zero_le _, Nat.zero_le _⟩) hB hA rfl (fun H locs hB => ?_)
  refine lv_astore_nR (lv' := [(3, va_rf (Option.map (gL g) r_1)), (0, .ref (gL g 0)), (1, .int a1), (2, .int a2)]) hx hb dX11_says_5 rfl hl (by decide) rfl (fun ls hl => ?_)
  refine lv_aload_nR hx hb dX11_says_6 rfl (lv_at hl 0 rfl) ?_
  rcases r_1 with _ | y_4
  · replace h := cs_n h
    have hl : lv_has ls 5 [(3, .null), (0, .ref (gL g 0)), (1, .int a1), (2, .int a2)] := hl
    refine lv_ifnullN (tgt := 20) hx hb dX11_says_7 (by decide) ?_
    exact hb_20 s_2 H locs ls h hB (lv_sub hl [1] rfl)
  · replace h := cs_s h
    replace h := ck_eq h; obtain ⟨q_5, h⟩ := h
    have hl : lv_has ls 5 [(3, .ref (gL g y_4)), (0, .ref (gL g 0)), (1, .int a1), (2, .int a2)] := hl
    refine lv_ifnull hx hb dX11_says_7 ?_
    refine lv_iload_n hx hb dX11_says_10 rfl (lv_at hl 3 rfl) ?_
    refine lv_if_lt (tgt := 20) hx hb dX11_says_11 (by decide) (fun c_9 => ?_) (fun c_9 => ?_)
    · replace h := itp h c_9
      exact hb_20 s_2 H locs ls h hB (lv_sub hl [1] rfl)
    · replace h := itn h c_9
      refine lv_iload_n hx hb dX11_says_14 rfl (lv_at hl 3 rfl) ?_
      refine lv_bipush (v := 6) hx hb dX11_says_15 (by decide) ?_
      refine lv_icmp_le (tgt := 26) hx hb dX11_says_17 (by decide) (fun c_10 => ?_) (fun c_10 => ?_)
      · replace h := itp h c_10
        refine lv_aload_n hx hb dX11_says_26 rfl (lv_at hl 0 rfl) ?_
        refine R_get (v := .int (hI s_2 y_4 1)) hx hb ht ui_X5 hown hK hB (ky_in _ (by rw [q_5]; decide)) (cell_6 q_5) rfl 1 (by decide) (ht _ tw86) (fun _ h9 => h9) rfl dX11_says_27 ?_
        refine lv_iconst (v := -1) hx hb dX11_says_30 (by decide) ?_
        refine lv_icmp_eq (tgt := 41) hx hb dX11_says_31 (by decide) (fun c_11 => ?_) (fun c_11 => ?_)
        · replace h := itp h c_11
          refine lv_aload_n hx hb dX11_says_41 rfl (lv_at hl 1 rfl) ?_
          refine R_get (v := .ref (gL g 1)) hx hb ht ui_X11 hown hK hB (by decide) (cell_0 rfl) rfl 0 (by decide) (ht _ tw130) (fun _ h9 => h9) rfl dX11_says_42 ?_
          refine lv_aload_n hx hb dX11_says_45 rfl (lv_at hl 0 rfl) ?_
          refine R_get (v := .int (hI s_2 y_4 3)) hx hb ht ui_X5 hown hK hB (ky_in _ (by rw [q_5]; decide)) (cell_6 q_5) rfl 3 (by decide) (ht _ tw91) (fun _ h9 => h9) rfl dX11_says_46 ?_
          replace h := b2_eq h; obtain ⟨r_12, s_13, hc_14, h⟩ := h
          refine R_call (rest := []) [va_rf (Option.map P r_12)] (R_runV (n := 1) (As := [.int (hI s_2 y_4 3)]) ⟨hx, hb, hml, hown, ht⟩ (fun _ h9 => h9) hK hZ hA hB (c_X7_lawAt l g P s_2 1 (hI s_2 y_4 3) rfl H.size hc_14) (R_recv hK hB (by decide) (cell_1 rfl) rfl) tw228 tw225 tw226 tw227 tw2 ⟨by decide, by decide, by decide⟩ rfl rfl ⟨Nat.le_of_ble_eq_true rfl, Nat.le_of_ble_eq_true rfl⟩ rfl hl.1 rfl (Nat.le_of_ble_eq_true rfl) dX11_says_49 ⟨Nat.zero_le _, Nat.zero_le _⟩) hB hA rfl (fun H locs hB => ?_)
          refine lv_astoreR (lv' := [(4, va_rf (Option.map P r_12)), (3, .ref (gL g y_4)), (0, .ref (gL g 0)), (1, .int a1), (2, .int a2)]) hx hb dX11_says_52 hl (by decide) rfl (fun ls hl => ?_)
          refine lv_aloadR hx hb dX11_says_54 (lv_at hl 0 rfl) ?_
          rcases r_12 with _ | y_15
          · replace h := cs_n h
            have hl : lv_has ls 5 [(4, .null), (3, .ref (gL g y_4)), (0, .ref (gL g 0)), (1, .int a1), (2, .int a2)] := hl
            refine lv_ifnonnullN hx hb dX11_says_56 ?_
            refine lv_aload_n hx hb dX11_says_59 rfl (lv_at hl 2 rfl) ?_
            refine lv_bipush (v := -3) hx hb dX11_says_60 (by decide) ?_
            replace h := b2_eq h; obtain ⟨r_16, s_17, hc_18, h⟩ := h
            refine R_call (rest := []) [.int r_16] (R_runV (n := 1) (As := [.int (-3 : Int32)]) ⟨hx, hb, hml, hown, ht⟩ (fun _ h9 => h9) hK hZ hA hB (c_X11_refuse l g P s_13 (-3 : Int32) H.size hc_18) (R_recv hK hB (by decide) (cell_0 rfl) rfl) tw178 tw175 tw177 pw1 tw1 ⟨by decide, by decide, by decide⟩ rfl rfl ⟨Nat.le_of_ble_eq_true rfl, Nat.le_of_ble_eq_true rfl⟩ rfl hl.1 rfl (Nat.le_of_ble_eq_true rfl) dX11_says_62 ⟨Nat.zero_le _, Nat.zero_le _⟩) hB hA rfl (fun H locs hB => ?_)
            obtain ⟨rfl, rfl⟩ := Prod.mk.inj (Option.some.inj h)
            exact W.iret hx hb hr (R_end hB) hB.2.2.2.2 dX11_says_65
          · replace h := cs_s h
            have hl : lv_has ls 5 [(4, .ref (P y_15)), (3, .ref (gL g y_4)), (0, .ref (gL g 0)), (1, .int a1), (2, .int a2)] := hl
            refine lv_ifnonnull (tgt := 66) hx hb dX11_says_56 (by decide) ?_
            refine lv_aload hx hb dX11_says_66 (lv_at hl 0 rfl) ?_
            refine lv_iload_n hx hb dX11_says_68 rfl (lv_at hl 4 rfl) ?_
            replace h := ck_eq h; obtain ⟨q_19, h⟩ := h
            replace h := b2_eq h; obtain ⟨r_20, s_21, hc_22, h⟩ := h
            refine R_call (rest := []) [.int r_20] (dv_isUnder ⟨hx, hb, hml, hown, ht⟩ hK hZ hA hB q_19 tw241 hc_22 (Nat.le_of_ble_eq_true rfl) (Nat.le_of_ble_eq_true rfl) hl.1 rfl (Nat.le_of_ble_eq_true rfl) dX11_says_69 (Nat.zero_le _) (Nat.zero_le _)) hB hA rfl (fun H locs hB => ?_)
            refine lv_if_ne (tgt := 82) hx hb dX11_says_72 (by decide) (fun c_23 => ?_) (fun c_23 => ?_)
            · replace h := itn h c_23
              refine lv_aload_n hx hb dX11_says_82 rfl (lv_at hl 2 rfl) ?_
              refine lv_aload hx hb dX11_says_83 (lv_at hl 0 rfl) ?_
              refine lv_iload_n hx hb dX11_says_85 rfl (lv_at hl 4 rfl) ?_
              replace h := b2_eq h; obtain ⟨r_24, s_25, hc_26, h⟩ := h
              refine R_call (rest := []) [.int r_24] (R_runV (n := 2) (As := [.ref (P y_15), .int a2]) ⟨hx, hb, hml, hown, ht⟩ (fun _ h9 => h9) hK hZ hA hB (c_X11_saying l g P s_21 y_15 a2 H.size hc_26) (R_recv hK hB (by decide) (cell_0 rfl) rfl) tw279 tw276 tw278 pw3 tw1 ⟨by decide, by decide, by decide⟩ rfl rfl ⟨Nat.le_of_ble_eq_true rfl, Nat.le_of_ble_eq_true rfl⟩ rfl hl.1 rfl (Nat.le_of_ble_eq_true rfl) dX11_says_86 ⟨Nat.zero_le _, Nat.zero_le _⟩) hB hA rfl (fun H locs hB => ?_)
              obtain ⟨rfl, rfl⟩ := Prod.mk.inj (Option.some.inj h)
              exact W.iret hx hb hr (R_end hB) hB.2.2.2.2 dX11_says_89
            · replace h := itp h c_23
              refine lv_aload_n hx hb dX11_says_75 rfl (lv_at hl 2 rfl) ?_
              refine lv_bipush (v := -2) hx hb dX11_says_76 (by decide) ?_
              replace h := b2_eq h; obtain ⟨r_27, s_28, hc_29, h⟩ := h
              refine R_call (rest := []) [.int r_27] (R_runV (n := 1) (As := [.int (-2 : Int32)]) ⟨hx, hb, hml, hown, ht⟩ (fun _ h9 => h9) hK hZ hA hB (c_X11_refuse l g P s_21 (-2 : Int32) H.size hc_29) (R_recv hK hB (by decide) (cell_0 rfl) rfl) tw178 tw175 tw177 pw1 tw1 ⟨by decide, by decide, by decide⟩ rfl rfl ⟨Nat.le_of_ble_eq_true rfl, Nat.le_of_ble_eq_true rfl⟩ rfl hl.1 rfl (Nat.le_of_ble_eq_true rfl) dX11_says_78 ⟨Nat.zero_le _, Nat.zero_le _⟩) hB hA rfl (fun H locs hB => ?_)
              obtain ⟨rfl, rfl⟩ := Prod.mk.inj (Option.some.inj h)
              exact W.iret hx hb hr (R_end hB) hB.2.2.2.2 dX11_says_81
        · replace h := itn h c_11
          refine lv_aload_n hx hb dX11_says_34 rfl (lv_at hl 1 rfl) ?_
          refine lv_bipush (v := -2) hx hb dX11_says_35 (by decide) ?_
          replace h := b2_eq h; obtain ⟨r_30, s_31, hc_32, h⟩ := h
          refine R_call (rest := []) [.int r_30] (R_runV (n := 1) (As := [.int (-2 : Int32)]) ⟨hx, hb, hml, hown, ht⟩ (fun _ h9 => h9) hK hZ hA hB (c_X11_refuse l g P s_2 (-2 : Int32) H.size hc_32) (R_recv hK hB (by decide) (cell_0 rfl) rfl) tw178 tw175 tw177 pw1 tw1 ⟨by decide, by decide, by decide⟩ rfl rfl ⟨Nat.le_of_ble_eq_true rfl, Nat.le_of_ble_eq_true rfl⟩ rfl hl.1 rfl (Nat.le_of_ble_eq_true rfl) dX11_says_37 ⟨Nat.zero_le _, Nat.zero_le _⟩) hB hA rfl (fun H locs hB => ?_)
          obtain ⟨rfl, rfl⟩ := Prod.mk.inj (Option.some.inj h)
          exact W.iret hx hb hr (R_end hB) hB.2.2.2.2 dX11_says_40
      · replace h := itn h c_10
        exact hb_20 s_2 H locs ls h hB (lv_sub hl [1] rfl)
def f_X11_base_b11 (σ1 : Hp) : Option (Int32 × Hp) := b2 (f_X11_refuse (-6 : Int32) σ1) (fun r_2 s_3 => some (r_2, s_3))
def f_X11_base (a1 : Int32) (σ : Hp) : Option (Int32 × Hp) := if a1 < (2 : Int32) then f_X11_base_b11 σ else if a1 ≤ (10 : Int32) then some ((hI σ 1 0), (sI σ 1 0 a1)) else f_X11_base_b11 σ
set_option maxHeartbeats 4000000 in
set_option maxRecDepth 100000 in
theorem c_X11_base (l : Launch) (g : tG) (P : Nat → Nat) (σ : Hp) (a1 : Int32) (sz : Nat) {r : Int32} {τ : Hp} (h : f_X11_base a1 σ = some (r, τ)) : Met l yX11_base (Cond.code yX11_base cX11_base 3 (some .int) :: tblG) ({ frames := 1, cells := 0, slots := 0, locals := 22 }) (va_Pc [.ref (gL g 0), .int a1] (tPre g P σ sz)) (tQ (some (.int r)) (tPost g P τ (va_A (wC g P σ) sz)) (va_A (wC g P σ) sz)) 0 0 (va_A (wC g P σ) sz) := by
  refine T_start (B := fun A => tPost g P τ A) (by decide) (Nat.le_of_ble_eq_true rfl) ?_
  intro p e s m args below meth c ls0 A hx hb hml hr hown hlocks ht hnm hK hZ hA hB0 hl0
  have hb_11 : ∀ (σ1 : Hp) (H : Heap) (locs : List Loc) (ls : Array Slot), f_X11_base_b11 σ1 = some (r, τ) → tB g P σ1 A s.heap H locs → lv_has ls 3 [(0, .ref (gL g 0))] → WQ p l e { frames := 1, cells := 0, slots := 0, locals := 22 } s m args below meth c g P A (some (.int r)) τ H locs (F0 m 11 ls []) := by
    intro σ1 H locs ls h hB hl
    unfold f_X11_base_b11 at h
    refine lv_aload_n hx hb dX11_base_11 rfl (lv_at hl 0 rfl) ?_
    refine lv_bipush (v := -6) hx hb dX11_base_12 (by decide) ?_
    replace h := b2_eq h; obtain ⟨r_2, s_3, hc_4, h⟩ := h
    refine R_call (rest := []) [.int r_2] (R_runV (n := 1) (As := [.int (-6 : Int32)]) ⟨hx, hb, hml, hown, ht⟩ (fun _ h9 => h9) hK hZ hA hB (c_X11_refuse l g P σ1 (-6 : Int32) H.size hc_4) (R_recv hK hB (by decide) (cell_0 rfl) rfl) tw178 tw175 tw177 pw1 tw1 ⟨by decide, by decide, by decide⟩ rfl rfl ⟨Nat.le_of_ble_eq_true rfl, Nat.le_of_ble_eq_true rfl⟩ rfl hl.1 rfl (Nat.le_of_ble_eq_true rfl) dX11_base_14 ⟨Nat.zero_le _, Nat.zero_le _⟩) hB hA rfl (fun H locs hB => ?_)
    obtain ⟨rfl, rfl⟩ := Prod.mk.inj (Option.some.inj h)
    exact W.iret hx hb hr (R_end hB) hB.2.2.2.2 dX11_base_17
  suffices hmain : ∀ (H : Heap) (locs : List Loc) (ls : Array Slot), tB g P σ A s.heap H locs → lv_has ls 3 [(0, .ref (gL g 0)), (1, .int a1)] → WQ p l e { frames := 1, cells := 0, slots := 0, locals := 22 } s m args below meth c g P A (some (.int r)) τ H locs (F0 m 0 ls []) from hmain _ _ ls0 hB0 hl0
  intro H locs ls hB hl
  unfold f_X11_base at h
  refine lv_iload_n hx hb dX11_base_0 rfl (lv_at hl 1 rfl) ?_
  refine lv_iconst (v := 2) hx hb dX11_base_1 (by decide) ?_
  refine lv_icmp_lt (tgt := 11) hx hb dX11_base_2 (by decide) (fun c_1 => ?_) (fun c_1 => ?_)
  · replace h := itp h c_1
    exact hb_11 σ H locs ls h hB (lv_sub hl [0] rfl)
  · replace h := itn h c_1
    refine lv_iload_n hx hb dX11_base_5 rfl (lv_at hl 1 rfl) ?_
    refine lv_bipush (v := 10) hx hb dX11_base_6 (by decide) ?_
    refine lv_icmp_le (tgt := 18) hx hb dX11_base_8 (by decide) (fun c_5 => ?_) (fun c_5 => ?_)
    · replace h := itp h c_5
      refine lv_aload_n hx hb dX11_base_18 rfl (lv_at hl 0 rfl) ?_
      refine R_get (v := .ref (gL g 1)) hx hb ht ui_X11 hown hK hB (by decide) (cell_0 rfl) rfl 0 (by decide) (ht _ tw130) (fun _ h9 => h9) rfl dX11_base_19 ?_
      refine R_get (v := .int (hI σ 1 0)) hx hb ht ui_X7 hown hK hB (by decide) (cell_1 rfl) rfl 0 (by decide) (ht _ tw46) (fun _ h9 => h9) rfl dX11_base_22 ?_
      refine lv_istore_n (lv' := [(2, .int (hI σ 1 0)), (0, .ref (gL g 0)), (1, .int a1)]) hx hb dX11_base_25 rfl hl (by decide) rfl (fun ls hl => ?_)
      refine lv_aload_n hx hb dX11_base_26 rfl (lv_at hl 1 rfl) ?_
      refine R_get (v := .ref (gL g 1)) hx hb ht ui_X11 hown hK hB (by decide) (cell_0 rfl) rfl 0 (by decide) (ht _ tw130) (fun _ h9 => h9) rfl dX11_base_27 ?_
      refine lv_iload_n hx hb dX11_base_30 rfl (lv_at hl 2 rfl) ?_
      refine R_putI (v := a1) (ty := .int) hx hb ht ui_X7 tyX7 tyX7_ok nmX7 hown hK hB (by decide) (cell_1 rfl) rfl 0 (by decide) (ht _ tw46) (fun _ h9 => h9) rfl (by decide +kernel) rfl rfl (Nat.le_of_ble_eq_true rfl) (st1_0 rfl) dX11_base_31 (fun H locs hB => ?_)
      refine lv_iload_n hx hb dX11_base_34 rfl (lv_at hl 0 rfl) ?_
      obtain ⟨rfl, rfl⟩ := Prod.mk.inj (Option.some.inj h)
      exact W.iret hx hb hr (R_end hB) hB.2.2.2.2 dX11_base_35
    · replace h := itn h c_5
      exact hb_11 σ H locs ls h hB (lv_sub hl [0] rfl)
def f_X11_value_b63 (σ1 : Hp) : Option (Int32 × Hp) := b2 (f_X11_refuse (-6 : Int32) σ1) (fun r_14 s_15 => some (r_14, s_15))
def f_X11_value_b36 (x1 : Int32) (x2 : Int32) (x3 : Int32) (x4 : Nat) (xt0 : Int32) (σ1 : Hp) : Option (Int32 × Hp) := ck (isLaw σ1 x4 = true) (b2 (v_isUnder x4 (5 : Int32) σ1) (fun r_10 s_11 => if r_10 = 0 then f_X11_value_b63 s_11 else if xt0 = 0 then f_X11_value_b63 s_11 else if x3 < 0 then f_X11_value_b63 s_11 else if x3 ≤ (999 : Int32) then b2 (f_X7_valueOf 1 x1 x2 s_11) (fun r_20 s_21 => b2 (f_X7_tellValue 1 x1 x2 x3 s_21) (fun r_23 s_24 => some (r_20, s_24))) else f_X11_value_b63 s_11))
def f_X11_value_b35 (x1 : Int32) (x2 : Int32) (x3 : Int32) (x4 : Nat) (σ1 : Hp) : Option (Int32 × Hp) := f_X11_value_b36 x1 x2 x3 x4 (0 : Int32) σ1
def f_X11_value (a1 : Int32) (a2 : Int32) (a3 : Int32) (σ : Hp) : Option (Int32 × Hp) := b2 (f_X7_lawAt 1 a1 σ) (fun r_1 s_2 => cs r_1 (b2 (f_X11_refuse (-1 : Int32) s_2) (fun r_5 s_6 => some (r_5, s_6))) (fun y_4 => if a2 < 0 then f_X11_value_b35 a1 a2 a3 y_4 s_2 else if (10 : Int32) ≤ a2 then f_X11_value_b35 a1 a2 a3 y_4 s_2 else f_X11_value_b36 a1 a2 a3 y_4 (1 : Int32) s_2))
set_option maxHeartbeats 4000000 in
set_option maxRecDepth 100000 in
theorem c_X11_value (l : Launch) (g : tG) (P : Nat → Nat) (σ : Hp) (a1 : Int32) (a2 : Int32) (a3 : Int32) (sz : Nat) {r : Int32} {τ : Hp} (h : f_X11_value a1 a2 a3 σ = some (r, τ)) : Met l yX11_value (Cond.code yX11_value cX11_value 7 (some .int) :: tblG) ({ frames := 3, cells := 0, slots := 0, locals := 63 }) (va_Pc [.ref (gL g 0), .int a1, .int a2, .int a3] (tPre g P σ sz)) (tQ (some (.int r)) (tPost g P τ (va_A (wC g P σ) sz)) (va_A (wC g P σ) sz)) 0 0 (va_A (wC g P σ) sz) := by
  refine T_start (B := fun A => tPost g P τ A) (by decide) (Nat.le_of_ble_eq_true rfl) ?_
  intro p e s m args below meth c ls0 A hx hb hml hr hown hlocks ht hnm hK hZ hA hB0 hl0
  have hb_63 : ∀ (σ1 : Hp) (H : Heap) (locs : List Loc) (ls : Array Slot), f_X11_value_b63 σ1 = some (r, τ) → tB g P σ1 A s.heap H locs → lv_has ls 7 [(0, .ref (gL g 0))] → WQ p l e { frames := 3, cells := 0, slots := 0, locals := 63 } s m args below meth c g P A (some (.int r)) τ H locs (F0 m 63 ls []) := by
    intro σ1 H locs ls h hB hl
    unfold f_X11_value_b63 at h
    refine lv_aload_n hx hb dX11_value_63 rfl (lv_at hl 0 rfl) ?_
    refine lv_bipush (v := -6) hx hb dX11_value_64 (by decide) ?_
    replace h := b2_eq h; obtain ⟨r_14, s_15, hc_16, h⟩ := h
    refine R_call (rest := []) [.int r_14] (R_runV (n := 1) (As := [.int (-6 : Int32)]) ⟨hx, hb, hml, hown, ht⟩ (fun _ h9 => h9) hK hZ hA hB (c_X11_refuse l g P σ1 (-6 : Int32) H.size hc_16) (R_recv hK hB (by decide) (cell_0 rfl) rfl) tw178 tw175 tw177 pw1 tw1 ⟨by decide, by decide, by decide⟩ rfl rfl ⟨Nat.le_of_ble_eq_true rfl, Nat.le_of_ble_eq_true rfl⟩ rfl hl.1 rfl (Nat.le_of_ble_eq_true rfl) dX11_value_66 ⟨Nat.zero_le _, Nat.zero_le _⟩) hB hA rfl (fun H locs hB => ?_)
    obtain ⟨rfl, rfl⟩ := Prod.mk.inj (Option.some.inj h)
    exact W.iret hx hb hr (R_end hB) hB.2.2.2.2 dX11_value_69
  have hb_36 : ∀ (x1 : Int32) (x2 : Int32) (x3 : Int32) (x4 : Nat) (xt0 : Int32) (σ1 : Hp) (H : Heap) (locs : List Loc) (ls : Array Slot), f_X11_value_b36 x1 x2 x3 x4 xt0 σ1 = some (r, τ) → tB g P σ1 A s.heap H locs → lv_has ls 7 [(0, .ref (gL g 0)), (1, .int x1), (2, .int x2), (3, .int x3), (4, .ref (P x4))] → WQ p l e { frames := 3, cells := 0, slots := 0, locals := 63 } s m args below meth c g P A (some (.int r)) τ H locs (F0 m 36 ls [.int xt0]) := by
    intro x1 x2 x3 x4 xt0 σ1 H locs ls h hB hl
    unfold f_X11_value_b36 at h
    refine lv_istore (lv' := [(5, .int xt0), (0, .ref (gL g 0)), (1, .int x1), (2, .int x2), (3, .int x3), (4, .ref (P x4))]) hx hb dX11_value_36 hl (by decide) rfl (fun ls hl => ?_)
    refine lv_aload hx hb dX11_value_38 (lv_at hl 5 rfl) ?_
    refine lv_iconst (v := 5) hx hb dX11_value_40 (by decide) ?_
    replace h := ck_eq h; obtain ⟨q_9, h⟩ := h
    replace h := b2_eq h; obtain ⟨r_10, s_11, hc_12, h⟩ := h
    refine R_call (rest := []) [.int r_10] (dv_isUnder ⟨hx, hb, hml, hown, ht⟩ hK hZ hA hB q_9 tw241 hc_12 (Nat.le_of_ble_eq_true rfl) (Nat.le_of_ble_eq_true rfl) hl.1 rfl (Nat.le_of_ble_eq_true rfl) dX11_value_41 (Nat.zero_le _) (Nat.zero_le _)) hB hA rfl (fun H locs hB => ?_)
    refine lv_if_eq (tgt := 63) hx hb dX11_value_44 (by decide) (fun c_13 => ?_) (fun c_13 => ?_)
    · replace h := itp h c_13
      exact hb_63 s_11 H locs ls h hB (lv_sub hl [1] rfl)
    · replace h := itn h c_13
      refine lv_iload hx hb dX11_value_47 (lv_at hl 0 rfl) ?_
      refine lv_if_eq (tgt := 63) hx hb dX11_value_49 (by decide) (fun c_17 => ?_) (fun c_17 => ?_)
      · replace h := itp h c_17
        exact hb_63 s_11 H locs ls h hB (lv_sub hl [1] rfl)
      · replace h := itn h c_17
        refine lv_iload_n hx hb dX11_value_52 rfl (lv_at hl 4 rfl) ?_
        refine lv_if_lt (tgt := 63) hx hb dX11_value_53 (by decide) (fun c_18 => ?_) (fun c_18 => ?_)
        · replace h := itp h c_18
          exact hb_63 s_11 H locs ls h hB (lv_sub hl [1] rfl)
        · replace h := itn h c_18
          refine lv_iload_n hx hb dX11_value_56 rfl (lv_at hl 4 rfl) ?_
          refine lv_sipush (v := 999) hx hb dX11_value_57 (by decide) ?_
          refine lv_icmp_le (tgt := 70) hx hb dX11_value_60 (by decide) (fun c_19 => ?_) (fun c_19 => ?_)
          · replace h := itp h c_19
            refine lv_aload_n hx hb dX11_value_70 rfl (lv_at hl 1 rfl) ?_
            refine R_get (v := .ref (gL g 1)) hx hb ht ui_X11 hown hK hB (by decide) (cell_0 rfl) rfl 0 (by decide) (ht _ tw130) (fun _ h9 => h9) rfl dX11_value_71 ?_
            refine lv_iload_n hx hb dX11_value_74 rfl (lv_at hl 2 rfl) ?_
            refine lv_iload_n hx hb dX11_value_75 rfl (lv_at hl 3 rfl) ?_
            replace h := b2_eq h; obtain ⟨r_20, s_21, hc_22, h⟩ := h
            refine R_call (rest := []) [.int r_20] (R_runV (n := 2) (As := [.int x1, .int x2]) ⟨hx, hb, hml, hown, ht⟩ (fun _ h9 => h9) hK hZ hA hB (c_X7_valueOf l g P s_11 1 x1 x2 rfl H.size hc_22) (R_recv hK hB (by decide) (cell_1 rfl) rfl) tw335 tw444 tw333 tw334 tw2 ⟨by decide, by decide, by decide⟩ rfl rfl ⟨Nat.le_of_ble_eq_true rfl, Nat.le_of_ble_eq_true rfl⟩ rfl hl.1 rfl (Nat.le_of_ble_eq_true rfl) dX11_value_76 ⟨Nat.zero_le _, Nat.zero_le _⟩) hB hA rfl (fun H locs hB => ?_)
            refine lv_istore (lv' := [(6, .int r_20), (5, .int xt0), (0, .ref (gL g 0)), (1, .int x1), (2, .int x2), (3, .int x3), (4, .ref (P x4))]) hx hb dX11_value_79 hl (by decide) rfl (fun ls hl => ?_)
            refine lv_aload_n hx hb dX11_value_81 rfl (lv_at hl 2 rfl) ?_
            refine R_get (v := .ref (gL g 1)) hx hb ht ui_X11 hown hK hB (by decide) (cell_0 rfl) rfl 0 (by decide) (ht _ tw130) (fun _ h9 => h9) rfl dX11_value_82 ?_
            refine lv_iload_n hx hb dX11_value_85 rfl (lv_at hl 3 rfl) ?_
            refine lv_iload_n hx hb dX11_value_86 rfl (lv_at hl 4 rfl) ?_
            refine lv_iload_n hx hb dX11_value_87 rfl (lv_at hl 5 rfl) ?_
            replace h := b2_eq h; obtain ⟨r_23, s_24, hc_25, h⟩ := h
            refine R_call (rest := []) [] (R_runV (n := 3) (As := [.int x1, .int x2, .int x3]) ⟨hx, hb, hml, hown, ht⟩ (fun _ h9 => h9) hK hZ hA hB (c_X7_tellValue l g P s_21 1 x1 x2 x3 rfl H.size hc_25) (R_recv hK hB (by decide) (cell_1 rfl) rfl) tw448 tw445 tw446 tw447 tw2 ⟨by decide, by decide, by decide⟩ rfl rfl ⟨Nat.le_of_ble_eq_true rfl, Nat.le_of_ble_eq_true rfl⟩ rfl hl.1 rfl (Nat.le_of_ble_eq_true rfl) dX11_value_88 ⟨Nat.zero_le _, Nat.zero_le _⟩) hB hA rfl (fun H locs hB => ?_)
            refine lv_iload hx hb dX11_value_91 (lv_at hl 0 rfl) ?_
            obtain ⟨rfl, rfl⟩ := Prod.mk.inj (Option.some.inj h)
            exact W.iret hx hb hr (R_end hB) hB.2.2.2.2 dX11_value_93
          · replace h := itn h c_19
            exact hb_63 s_11 H locs ls h hB (lv_sub hl [1] rfl)
  have hb_35 : ∀ (x1 : Int32) (x2 : Int32) (x3 : Int32) (x4 : Nat) (σ1 : Hp) (H : Heap) (locs : List Loc) (ls : Array Slot), f_X11_value_b35 x1 x2 x3 x4 σ1 = some (r, τ) → tB g P σ1 A s.heap H locs → lv_has ls 7 [(0, .ref (gL g 0)), (1, .int x1), (2, .int x2), (3, .int x3), (4, .ref (P x4))] → WQ p l e { frames := 3, cells := 0, slots := 0, locals := 63 } s m args below meth c g P A (some (.int r)) τ H locs (F0 m 35 ls []) := by
    intro x1 x2 x3 x4 σ1 H locs ls h hB hl
    unfold f_X11_value_b35 at h
    refine lv_iconst (v := 0) hx hb dX11_value_35 (by decide) ?_
    exact hb_36 x1 x2 x3 x4 (0 : Int32) σ1 H locs ls h hB (lv_sub hl [0, 1, 2, 3, 4] rfl)
  suffices hmain : ∀ (H : Heap) (locs : List Loc) (ls : Array Slot), tB g P σ A s.heap H locs → lv_has ls 7 [(0, .ref (gL g 0)), (1, .int a1), (2, .int a2), (3, .int a3)] → WQ p l e { frames := 3, cells := 0, slots := 0, locals := 63 } s m args below meth c g P A (some (.int r)) τ H locs (F0 m 0 ls []) from hmain _ _ ls0 hB0 hl0
  intro H locs ls hB hl
  unfold f_X11_value at h
  refine lv_aload_n hx hb dX11_value_0 rfl (lv_at hl 0 rfl) ?_
  refine R_get (v := .ref (gL g 1)) hx hb ht ui_X11 hown hK hB (by decide) (cell_0 rfl) rfl 0 (by decide) (ht _ tw130) (fun _ h9 => h9) rfl dX11_value_1 ?_
  refine lv_iload_n hx hb dX11_value_4 rfl (lv_at hl 1 rfl) ?_
  replace h := b2_eq h; obtain ⟨r_1, s_2, hc_3, h⟩ := h
  refine R_call (rest := []) [va_rf (Option.map P r_1)] (R_runV (n := 1) (As := [.int a1]) ⟨hx, hb, hml, hown, ht⟩ (fun _ h9 => h9) hK hZ hA hB (c_X7_lawAt l g P σ 1 a1 rfl H.size hc_3) (R_recv hK hB (by decide) (cell_1 rfl) rfl) tw228 tw225 tw226 tw227 tw2 ⟨by decide, by decide, by decide⟩ rfl rfl ⟨Nat.le_of_ble_eq_true rfl, Nat.le_of_ble_eq_true rfl⟩ rfl hl.1 rfl (Nat.le_of_ble_eq_true rfl) dX11_value_5 ⟨Nat.zero_le _, Nat.zero_le _⟩) hB hA rfl (fun H locs hB => ?_)
  refine lv_astoreR (lv' := [(4, va_rf (Option.map P r_1)), (0, .ref (gL g 0)), (1, .int a1), (2, .int a2), (3, .int a3)]) hx hb dX11_value_8 hl (by decide) rfl (fun ls hl => ?_)
  refine lv_aloadR hx hb dX11_value_10 (lv_at hl 0 rfl) ?_
  rcases r_1 with _ | y_4
  · replace h := cs_n h
    have hl : lv_has ls 7 [(4, .null), (0, .ref (gL g 0)), (1, .int a1), (2, .int a2), (3, .int a3)] := hl
    refine lv_ifnonnullN hx hb dX11_value_12 ?_
    refine lv_aload_n hx hb dX11_value_15 rfl (lv_at hl 1 rfl) ?_
    refine lv_iconst (v := -1) hx hb dX11_value_16 (by decide) ?_
    replace h := b2_eq h; obtain ⟨r_5, s_6, hc_7, h⟩ := h
    refine R_call (rest := []) [.int r_5] (R_runV (n := 1) (As := [.int (-1 : Int32)]) ⟨hx, hb, hml, hown, ht⟩ (fun _ h9 => h9) hK hZ hA hB (c_X11_refuse l g P s_2 (-1 : Int32) H.size hc_7) (R_recv hK hB (by decide) (cell_0 rfl) rfl) tw178 tw175 tw177 pw1 tw1 ⟨by decide, by decide, by decide⟩ rfl rfl ⟨Nat.le_of_ble_eq_true rfl, Nat.le_of_ble_eq_true rfl⟩ rfl hl.1 rfl (Nat.le_of_ble_eq_true rfl) dX11_value_17 ⟨Nat.zero_le _, Nat.zero_le _⟩) hB hA rfl (fun H locs hB => ?_)
    obtain ⟨rfl, rfl⟩ := Prod.mk.inj (Option.some.inj h)
    exact W.iret hx hb hr (R_end hB) hB.2.2.2.2 dX11_value_20
  · replace h := cs_s h
    have hl : lv_has ls 7 [(4, .ref (P y_4)), (0, .ref (gL g 0)), (1, .int a1), (2, .int a2), (3, .int a3)] := hl
    refine lv_ifnonnull (tgt := 21) hx hb dX11_value_12 (by decide) ?_
    refine lv_iload_n hx hb dX11_value_21 rfl (lv_at hl 3 rfl) ?_
    refine lv_if_lt (tgt := 35) hx hb dX11_value_22 (by decide) (fun c_8 => ?_) (fun c_8 => ?_)
    · replace h := itp h c_8
      exact hb_35 a1 a2 a3 y_4 s_2 H locs ls h hB (lv_sub hl [1, 2, 3, 4, 0] rfl)
    · replace h := itn h c_8
      refine lv_iload_n hx hb dX11_value_25 rfl (lv_at hl 3 rfl) ?_
      refine lv_bipush (v := 10) hx hb dX11_value_26 (by decide) ?_
      refine lv_icmp_ge (tgt := 35) hx hb dX11_value_28 (by decide) (fun c_26 => ?_) (fun c_26 => ?_)
      · replace h := itp h c_26
        exact hb_35 a1 a2 a3 y_4 s_2 H locs ls h hB (lv_sub hl [1, 2, 3, 4, 0] rfl)
      · replace h := itn h c_26
        refine lv_iconst (v := 1) hx hb dX11_value_31 (by decide) ?_
        refine lv_goto (tgt := 36) hx hb dX11_value_32 (by decide) ?_
        exact hb_36 a1 a2 a3 y_4 (1 : Int32) s_2 H locs ls h hB (lv_sub hl [1, 2, 3, 4, 0] rfl)
def f_X11_lawOf_b51 (σ1 : Hp) : Option (Int32 × Hp) := b2 (f_X11_refuse (-5 : Int32) σ1) (fun r_11 s_12 => some (r_11, s_12))
def f_X11_lawOf (a1 : Int32) (a2 : Int32) (σ : Hp) : Option (Int32 × Hp) := b2 (f_X7_lawAt 1 a1 σ) (fun r_1 s_2 => cs r_1 (b2 (f_X11_refuse (-5 : Int32) s_2) (fun r_5 s_6 => some (r_5, s_6))) (fun y_4 => if a2 = 0 then ck (isLaw s_2 y_4 = true) (b2 (v_kindNumber y_4 s_2) (fun r_20 s_21 => some (r_20, s_21))) else if a2 = (1 : Int32) then ck (isLaw s_2 y_4 = true) (some ((hI s_2 (100 + y_4) 1), s_2)) else if a2 < (10 : Int32) then f_X11_lawOf_b51 s_2 else if a2 < (20 : Int32) then b2 (f_X7_valueOf 1 a1 (a2 - (10 : Int32)) s_2) (fun r_15 s_16 => some (r_15, s_16)) else f_X11_lawOf_b51 s_2))
set_option maxHeartbeats 4000000 in
set_option maxRecDepth 100000 in
theorem c_X11_lawOf (l : Launch) (g : tG) (P : Nat → Nat) (σ : Hp) (a1 : Int32) (a2 : Int32) (sz : Nat) {r : Int32} {τ : Hp} (h : f_X11_lawOf a1 a2 σ = some (r, τ)) : Met l yX11_lawOf (Cond.code yX11_lawOf cX11_lawOf 4 (some .int) :: tblG) ({ frames := 1, cells := 0, slots := 0, locals := 23 }) (va_Pc [.ref (gL g 0), .int a1, .int a2] (tPre g P σ sz)) (tQ (some (.int r)) (tPost g P τ (va_A (wC g P σ) sz)) (va_A (wC g P σ) sz)) 0 0 (va_A (wC g P σ) sz) := by
  refine T_start (B := fun A => tPost g P τ A) (by decide) (Nat.le_of_ble_eq_true rfl) ?_
  intro p e s m args below meth c ls0 A hx hb hml hr hown hlocks ht hnm hK hZ hA hB0 hl0
  have hb_51 : ∀ (σ1 : Hp) (H : Heap) (locs : List Loc) (ls : Array Slot), f_X11_lawOf_b51 σ1 = some (r, τ) → tB g P σ1 A s.heap H locs → lv_has ls 4 [(0, .ref (gL g 0))] → WQ p l e { frames := 1, cells := 0, slots := 0, locals := 23 } s m args below meth c g P A (some (.int r)) τ H locs (F0 m 51 ls []) := by
    intro σ1 H locs ls h hB hl
    unfold f_X11_lawOf_b51 at h
    refine lv_aload_n hx hb dX11_lawOf_51 rfl (lv_at hl 0 rfl) ?_
    refine lv_bipush (v := -5) hx hb dX11_lawOf_52 (by decide) ?_
    replace h := b2_eq h; obtain ⟨r_11, s_12, hc_13, h⟩ := h
    refine R_call (rest := []) [.int r_11] (R_runV (n := 1) (As := [.int (-5 : Int32)]) ⟨hx, hb, hml, hown, ht⟩ (fun _ h9 => h9) hK hZ hA hB (c_X11_refuse l g P σ1 (-5 : Int32) H.size hc_13) (R_recv hK hB (by decide) (cell_0 rfl) rfl) tw178 tw175 tw177 pw1 tw1 ⟨by decide, by decide, by decide⟩ rfl rfl ⟨Nat.le_of_ble_eq_true rfl, Nat.le_of_ble_eq_true rfl⟩ rfl hl.1 rfl (Nat.le_of_ble_eq_true rfl) dX11_lawOf_54 ⟨Nat.zero_le _, Nat.zero_le _⟩) hB hA rfl (fun H locs hB => ?_)
    obtain ⟨rfl, rfl⟩ := Prod.mk.inj (Option.some.inj h)
    exact W.iret hx hb hr (R_end hB) hB.2.2.2.2 dX11_lawOf_57
  suffices hmain : ∀ (H : Heap) (locs : List Loc) (ls : Array Slot), tB g P σ A s.heap H locs → lv_has ls 4 [(0, .ref (gL g 0)), (1, .int a1), (2, .int a2)] → WQ p l e { frames := 1, cells := 0, slots := 0, locals := 23 } s m args below meth c g P A (some (.int r)) τ H locs (F0 m 0 ls []) from hmain _ _ ls0 hB0 hl0
  intro H locs ls hB hl
  unfold f_X11_lawOf at h
  refine lv_aload_n hx hb dX11_lawOf_0 rfl (lv_at hl 0 rfl) ?_
  refine R_get (v := .ref (gL g 1)) hx hb ht ui_X11 hown hK hB (by decide) (cell_0 rfl) rfl 0 (by decide) (ht _ tw130) (fun _ h9 => h9) rfl dX11_lawOf_1 ?_
  refine lv_iload_n hx hb dX11_lawOf_4 rfl (lv_at hl 1 rfl) ?_
  replace h := b2_eq h; obtain ⟨r_1, s_2, hc_3, h⟩ := h
  refine R_call (rest := []) [va_rf (Option.map P r_1)] (R_runV (n := 1) (As := [.int a1]) ⟨hx, hb, hml, hown, ht⟩ (fun _ h9 => h9) hK hZ hA hB (c_X7_lawAt l g P σ 1 a1 rfl H.size hc_3) (R_recv hK hB (by decide) (cell_1 rfl) rfl) tw228 tw225 tw226 tw227 tw2 ⟨by decide, by decide, by decide⟩ rfl rfl ⟨Nat.le_of_ble_eq_true rfl, Nat.le_of_ble_eq_true rfl⟩ rfl hl.1 rfl (Nat.le_of_ble_eq_true rfl) dX11_lawOf_5 ⟨Nat.zero_le _, Nat.zero_le _⟩) hB hA rfl (fun H locs hB => ?_)
  refine lv_astore_nR (lv' := [(3, va_rf (Option.map P r_1)), (0, .ref (gL g 0)), (1, .int a1), (2, .int a2)]) hx hb dX11_lawOf_8 rfl hl (by decide) rfl (fun ls hl => ?_)
  refine lv_aload_nR hx hb dX11_lawOf_9 rfl (lv_at hl 0 rfl) ?_
  rcases r_1 with _ | y_4
  · replace h := cs_n h
    have hl : lv_has ls 4 [(3, .null), (0, .ref (gL g 0)), (1, .int a1), (2, .int a2)] := hl
    refine lv_ifnonnullN hx hb dX11_lawOf_10 ?_
    refine lv_aload_n hx hb dX11_lawOf_13 rfl (lv_at hl 1 rfl) ?_
    refine lv_bipush (v := -5) hx hb dX11_lawOf_14 (by decide) ?_
    replace h := b2_eq h; obtain ⟨r_5, s_6, hc_7, h⟩ := h
    refine R_call (rest := []) [.int r_5] (R_runV (n := 1) (As := [.int (-5 : Int32)]) ⟨hx, hb, hml, hown, ht⟩ (fun _ h9 => h9) hK hZ hA hB (c_X11_refuse l g P s_2 (-5 : Int32) H.size hc_7) (R_recv hK hB (by decide) (cell_0 rfl) rfl) tw178 tw175 tw177 pw1 tw1 ⟨by decide, by decide, by decide⟩ rfl rfl ⟨Nat.le_of_ble_eq_true rfl, Nat.le_of_ble_eq_true rfl⟩ rfl hl.1 rfl (Nat.le_of_ble_eq_true rfl) dX11_lawOf_16 ⟨Nat.zero_le _, Nat.zero_le _⟩) hB hA rfl (fun H locs hB => ?_)
    obtain ⟨rfl, rfl⟩ := Prod.mk.inj (Option.some.inj h)
    exact W.iret hx hb hr (R_end hB) hB.2.2.2.2 dX11_lawOf_19
  · replace h := cs_s h
    have hl : lv_has ls 4 [(3, .ref (P y_4)), (0, .ref (gL g 0)), (1, .int a1), (2, .int a2)] := hl
    refine lv_ifnonnull (tgt := 20) hx hb dX11_lawOf_10 (by decide) ?_
    refine lv_iload_n hx hb dX11_lawOf_20 rfl (lv_at hl 3 rfl) ?_
    refine lv_if_ne (tgt := 29) hx hb dX11_lawOf_21 (by decide) (fun c_8 => ?_) (fun c_8 => ?_)
    · replace h := itn h c_8
      refine lv_iload_n hx hb dX11_lawOf_29 rfl (lv_at hl 3 rfl) ?_
      refine lv_iconst (v := 1) hx hb dX11_lawOf_30 (by decide) ?_
      refine lv_icmp_ne (tgt := 39) hx hb dX11_lawOf_31 (by decide) (fun c_9 => ?_) (fun c_9 => ?_)
      · replace h := itn h c_9
        refine lv_iload_n hx hb dX11_lawOf_39 rfl (lv_at hl 3 rfl) ?_
        refine lv_bipush (v := 10) hx hb dX11_lawOf_40 (by decide) ?_
        refine lv_icmp_lt (tgt := 51) hx hb dX11_lawOf_42 (by decide) (fun c_10 => ?_) (fun c_10 => ?_)
        · replace h := itp h c_10
          exact hb_51 s_2 H locs ls h hB (lv_sub hl [1] rfl)
        · replace h := itn h c_10
          refine lv_iload_n hx hb dX11_lawOf_45 rfl (lv_at hl 3 rfl) ?_
          refine lv_bipush (v := 20) hx hb dX11_lawOf_46 (by decide) ?_
          refine lv_icmp_lt (tgt := 58) hx hb dX11_lawOf_48 (by decide) (fun c_14 => ?_) (fun c_14 => ?_)
          · replace h := itp h c_14
            refine lv_aload_n hx hb dX11_lawOf_58 rfl (lv_at hl 1 rfl) ?_
            refine R_get (v := .ref (gL g 1)) hx hb ht ui_X11 hown hK hB (by decide) (cell_0 rfl) rfl 0 (by decide) (ht _ tw130) (fun _ h9 => h9) rfl dX11_lawOf_59 ?_
            refine lv_iload_n hx hb dX11_lawOf_62 rfl (lv_at hl 2 rfl) ?_
            refine lv_iload_n hx hb dX11_lawOf_63 rfl (lv_at hl 3 rfl) ?_
            refine lv_bipush (v := 10) hx hb dX11_lawOf_64 (by decide) ?_
            refine lv_isub hx hb dX11_lawOf_66 ?_
            replace h := b2_eq h; obtain ⟨r_15, s_16, hc_17, h⟩ := h
            refine R_call (rest := []) [.int r_15] (R_runV (n := 2) (As := [.int a1, .int (a2 - (10 : Int32))]) ⟨hx, hb, hml, hown, ht⟩ (fun _ h9 => h9) hK hZ hA hB (c_X7_valueOf l g P s_2 1 a1 (a2 - (10 : Int32)) rfl H.size hc_17) (R_recv hK hB (by decide) (cell_1 rfl) rfl) tw335 tw444 tw333 tw334 tw2 ⟨by decide, by decide, by decide⟩ rfl rfl ⟨Nat.le_of_ble_eq_true rfl, Nat.le_of_ble_eq_true rfl⟩ rfl hl.1 rfl (Nat.le_of_ble_eq_true rfl) dX11_lawOf_67 ⟨Nat.zero_le _, Nat.zero_le _⟩) hB hA rfl (fun H locs hB => ?_)
            obtain ⟨rfl, rfl⟩ := Prod.mk.inj (Option.some.inj h)
            exact W.iret hx hb hr (R_end hB) hB.2.2.2.2 dX11_lawOf_70
          · replace h := itn h c_14
            exact hb_51 s_2 H locs ls h hB (lv_sub hl [1] rfl)
      · replace h := itp h c_9
        refine lv_aload_n hx hb dX11_lawOf_34 rfl (lv_at hl 0 rfl) ?_
        replace h := ck_eq h; obtain ⟨q_18, h⟩ := h
        refine R_getP1 hx hb ht hown hK hB q_18 (ht _ tw390) (fun _ h9 => h9) dX11_lawOf_35 ?_
        obtain ⟨rfl, rfl⟩ := Prod.mk.inj (Option.some.inj h)
        exact W.iret hx hb hr (R_end hB) hB.2.2.2.2 dX11_lawOf_38
    · replace h := itp h c_8
      refine lv_aload_n hx hb dX11_lawOf_24 rfl (lv_at hl 0 rfl) ?_
      replace h := ck_eq h; obtain ⟨q_19, h⟩ := h
      replace h := b2_eq h; obtain ⟨r_20, s_21, hc_22, h⟩ := h
      refine R_call (rest := []) [.int r_20] (dv_kindNumber ⟨hx, hb, hml, hown, ht⟩ hK hZ hA hB q_19 tw453 hc_22 (Nat.le_of_ble_eq_true rfl) (Nat.le_of_ble_eq_true rfl) hl.1 rfl (Nat.le_of_ble_eq_true rfl) dX11_lawOf_25 (Nat.zero_le _) (Nat.zero_le _)) hB hA rfl (fun H locs hB => ?_)
      obtain ⟨rfl, rfl⟩ := Prod.mk.inj (Option.some.inj h)
      exact W.iret hx hb hr (R_end hB) hB.2.2.2.2 dX11_lawOf_28
def f_X11_fault (σ : Hp) : Option (Int32 × Hp) := some ((hI σ 0 7), σ)
set_option maxHeartbeats 4000000 in
set_option maxRecDepth 100000 in
theorem c_X11_fault (l : Launch) (g : tG) (P : Nat → Nat) (σ : Hp) (sz : Nat) {r : Int32} {τ : Hp} (h : f_X11_fault σ = some (r, τ)) : Met l yX11_fault (Cond.code yX11_fault cX11_fault 1 (some .int) :: tblG) ({ frames := 0, cells := 0, slots := 0, locals := 0 }) (va_Pc [.ref (gL g 0)] (tPre g P σ sz)) (tQ (some (.int r)) (tPost g P τ (va_A (wC g P σ) sz)) (va_A (wC g P σ) sz)) 0 0 (va_A (wC g P σ) sz) := by
  refine T_start (B := fun A => tPost g P τ A) (by decide) (Nat.le_of_ble_eq_true rfl) ?_
  intro p e s m args below meth c ls0 A hx hb hml hr hown hlocks ht hnm hK hZ hA hB0 hl0
  suffices hmain : ∀ (H : Heap) (locs : List Loc) (ls : Array Slot), tB g P σ A s.heap H locs → lv_has ls 1 [(0, .ref (gL g 0))] → WQ p l e { frames := 0, cells := 0, slots := 0, locals := 0 } s m args below meth c g P A (some (.int r)) τ H locs (F0 m 0 ls []) from hmain _ _ ls0 hB0 hl0
  intro H locs ls hB hl
  unfold f_X11_fault at h
  refine lv_aload_n hx hb dX11_fault_0 rfl (lv_at hl 0 rfl) ?_
  refine R_get (v := .int (hI σ 0 7)) hx hb ht ui_X11 hown hK hB (by decide) (cell_0 rfl) rfl 6 (by decide) (ht _ tw136) (fun _ h9 => h9) rfl dX11_fault_1 ?_
  obtain ⟨rfl, rfl⟩ := Prod.mk.inj (Option.some.inj h)
  exact W.iret hx hb hr (R_end hB) hB.2.2.2.2 dX11_fault_4
def f_X11_turned (a1 : Int64) (σ : Hp) : Option (Int64 × Hp) := b2 (f_X11_isNumber a1 σ) (fun r_1 s_2 => if r_1 = 0 then b2 (f_X11_refuse (-6 : Int32) s_2) (fun r_5 s_6 => some (r_5.toInt64, s_6)) else b2 (f_X1_turnedOf a1 (hI s_2 1 0) s_2) (fun r_8 s_9 => some (r_8, s_9)))
set_option maxHeartbeats 4000000 in
set_option maxRecDepth 100000 in
theorem c_X11_turned (l : Launch) (g : tG) (P : Nat → Nat) (σ : Hp) (a1 : Int64) (sz : Nat) {r : Int64} {τ : Hp} (h : f_X11_turned a1 σ = some (r, τ)) : Met l yX11_turned (Cond.code yX11_turned cX11_turned 3 (some .long) :: tblG) ({ frames := 1, cells := 0, slots := 0, locals := 27 }) (va_Pc [.ref (gL g 0), .long a1] (tPre g P σ sz)) (tQ (some (.long r)) (tPost g P τ (va_A (wC g P σ) sz)) (va_A (wC g P σ) sz)) 0 0 (va_A (wC g P σ) sz) := by
  refine T_start (B := fun A => tPost g P τ A) (by decide) (Nat.le_of_ble_eq_true rfl) ?_
  intro p e s m args below meth c ls0 A hx hb hml hr hown hlocks ht hnm hK hZ hA hB0 hl0
  suffices hmain : ∀ (H : Heap) (locs : List Loc) (ls : Array Slot), tB g P σ A s.heap H locs → lv_has ls 3 [(0, .ref (gL g 0)), (1, .long a1)] → WQ p l e { frames := 1, cells := 0, slots := 0, locals := 27 } s m args below meth c g P A (some (.long r)) τ H locs (F0 m 0 ls []) from hmain _ _ ls0 hB0 hl0
  intro H locs ls hB hl
  unfold f_X11_turned at h
  refine lv_lload_n hx hb dX11_turned_0 rfl (lv_at hl 1 rfl) ?_
  replace h := b2_eq h; obtain ⟨r_1, s_2, hc_3, h⟩ := h
  refine R_call (rest := []) [.int r_1] (R_runS (n := 1) (As := [.long a1]) ⟨hx, hb, hml, hown, ht⟩ (fun _ h9 => h9) hK hZ hA hB (c_X11_isNumber l g P σ a1 H.size hc_3) tw622 tw620 tw621 tw1 ⟨by decide, by decide, by decide⟩ rfl rfl ⟨Nat.le_of_ble_eq_true rfl, Nat.le_of_ble_eq_true rfl⟩ rfl hl.1 rfl (Nat.le_of_ble_eq_true rfl) dX11_turned_1 ⟨Nat.zero_le _, Nat.zero_le _⟩) hB hA rfl (fun H locs hB => ?_)
  refine lv_if_eq (tgt := 21) hx hb dX11_turned_4 (by decide) (fun c_4 => ?_) (fun c_4 => ?_)
  · replace h := itp h c_4
    refine lv_aload_n hx hb dX11_turned_21 rfl (lv_at hl 0 rfl) ?_
    refine lv_bipush (v := -6) hx hb dX11_turned_22 (by decide) ?_
    replace h := b2_eq h; obtain ⟨r_5, s_6, hc_7, h⟩ := h
    refine R_call (rest := []) [.int r_5] (R_runV (n := 1) (As := [.int (-6 : Int32)]) ⟨hx, hb, hml, hown, ht⟩ (fun _ h9 => h9) hK hZ hA hB (c_X11_refuse l g P s_2 (-6 : Int32) H.size hc_7) (R_recv hK hB (by decide) (cell_0 rfl) rfl) tw178 tw175 tw177 pw1 tw1 ⟨by decide, by decide, by decide⟩ rfl rfl ⟨Nat.le_of_ble_eq_true rfl, Nat.le_of_ble_eq_true rfl⟩ rfl hl.1 rfl (Nat.le_of_ble_eq_true rfl) dX11_turned_24 ⟨Nat.zero_le _, Nat.zero_le _⟩) hB hA rfl (fun H locs hB => ?_)
    refine lv_i2l (v := r_5.toInt64) hx hb dX11_turned_27 rfl ?_
    obtain ⟨rfl, rfl⟩ := Prod.mk.inj (Option.some.inj h)
    exact W.lret hx hb hr (R_end hB) hB.2.2.2.2 dX11_turned_28
  · replace h := itn h c_4
    refine lv_lload_n hx hb dX11_turned_7 rfl (lv_at hl 1 rfl) ?_
    refine lv_aload_n hx hb dX11_turned_8 rfl (lv_at hl 0 rfl) ?_
    refine R_get (v := .ref (gL g 1)) hx hb ht ui_X11 hown hK hB (by decide) (cell_0 rfl) rfl 0 (by decide) (ht _ tw130) (fun _ h9 => h9) rfl dX11_turned_9 ?_
    refine R_get (v := .int (hI s_2 1 0)) hx hb ht ui_X7 hown hK hB (by decide) (cell_1 rfl) rfl 0 (by decide) (ht _ tw46) (fun _ h9 => h9) rfl dX11_turned_12 ?_
    replace h := b2_eq h; obtain ⟨r_8, s_9, hc_10, h⟩ := h
    refine R_call (rest := []) [.long r_8] (R_runS (n := 2) (As := [.long a1, .int (hI s_2 1 0)]) ⟨hx, hb, hml, hown, ht⟩ (fun _ h9 => h9) hK hZ hA hB (c_X1_turnedOf l g P s_2 a1 (hI s_2 1 0) H.size hc_10) tw319 tw624 tw318 tw8 ⟨by decide, by decide, by decide⟩ rfl rfl ⟨Nat.le_of_ble_eq_true rfl, Nat.le_of_ble_eq_true rfl⟩ rfl hl.1 rfl (Nat.le_of_ble_eq_true rfl) dX11_turned_15 ⟨Nat.zero_le _, Nat.zero_le _⟩) hB hA rfl (fun H locs hB => ?_)
    refine lv_goto (tgt := 28) hx hb dX11_turned_18 (by decide) ?_
    obtain ⟨rfl, rfl⟩ := Prod.mk.inj (Option.some.inj h)
    exact W.lret hx hb hr (R_end hB) hB.2.2.2.2 dX11_turned_28
def f_X11_isAlike (a1 : Int64) (σ : Hp) : Option (Int32 × Hp) := b2 (f_X1_turnedOf a1 (hI σ 1 0) σ) (fun r_1 s_2 => if (lg_cmp r_1 a1) = 0 then some ((1 : Int32), s_2) else some ((0 : Int32), s_2))
set_option maxHeartbeats 4000000 in
set_option maxRecDepth 100000 in
theorem c_X11_isAlike (l : Launch) (g : tG) (P : Nat → Nat) (σ : Hp) (a1 : Int64) (sz : Nat) {r : Int32} {τ : Hp} (h : f_X11_isAlike a1 σ = some (r, τ)) : Met l yX11_isAlike (Cond.code yX11_isAlike cX11_isAlike 3 (some .boolean) :: tblG) ({ frames := 1, cells := 0, slots := 0, locals := 27 }) (va_Pc [.ref (gL g 0), .long a1] (tPre g P σ sz)) (tQ (some (.int r)) (tPost g P τ (va_A (wC g P σ) sz)) (va_A (wC g P σ) sz)) 0 0 (va_A (wC g P σ) sz) := by
  refine T_start (B := fun A => tPost g P τ A) (by decide) (Nat.le_of_ble_eq_true rfl) ?_
  intro p e s m args below meth c ls0 A hx hb hml hr hown hlocks ht hnm hK hZ hA hB0 hl0
  suffices hmain : ∀ (H : Heap) (locs : List Loc) (ls : Array Slot), tB g P σ A s.heap H locs → lv_has ls 3 [(0, .ref (gL g 0)), (1, .long a1)] → WQ p l e { frames := 1, cells := 0, slots := 0, locals := 27 } s m args below meth c g P A (some (.int r)) τ H locs (F0 m 0 ls []) from hmain _ _ ls0 hB0 hl0
  intro H locs ls hB hl
  unfold f_X11_isAlike at h
  refine lv_lload_n hx hb dX11_isAlike_0 rfl (lv_at hl 1 rfl) ?_
  refine lv_aload_n hx hb dX11_isAlike_1 rfl (lv_at hl 0 rfl) ?_
  refine R_get (v := .ref (gL g 1)) hx hb ht ui_X11 hown hK hB (by decide) (cell_0 rfl) rfl 0 (by decide) (ht _ tw130) (fun _ h9 => h9) rfl dX11_isAlike_2 ?_
  refine R_get (v := .int (hI σ 1 0)) hx hb ht ui_X7 hown hK hB (by decide) (cell_1 rfl) rfl 0 (by decide) (ht _ tw46) (fun _ h9 => h9) rfl dX11_isAlike_5 ?_
  replace h := b2_eq h; obtain ⟨r_1, s_2, hc_3, h⟩ := h
  refine R_call (rest := []) [.long r_1] (R_runS (n := 2) (As := [.long a1, .int (hI σ 1 0)]) ⟨hx, hb, hml, hown, ht⟩ (fun _ h9 => h9) hK hZ hA hB (c_X1_turnedOf l g P σ a1 (hI σ 1 0) H.size hc_3) tw319 tw624 tw318 tw8 ⟨by decide, by decide, by decide⟩ rfl rfl ⟨Nat.le_of_ble_eq_true rfl, Nat.le_of_ble_eq_true rfl⟩ rfl hl.1 rfl (Nat.le_of_ble_eq_true rfl) dX11_isAlike_8 ⟨Nat.zero_le _, Nat.zero_le _⟩) hB hA rfl (fun H locs hB => ?_)
  refine lv_lload_n hx hb dX11_isAlike_11 rfl (lv_at hl 1 rfl) ?_
  refine W.lcmp hx hb dX11_isAlike_12 ?_
  refine lv_if_ne (tgt := 20) hx hb dX11_isAlike_13 (by decide) (fun c_4 => ?_) (fun c_4 => ?_)
  · replace h := itn h c_4
    refine lv_iconst (v := 0) hx hb dX11_isAlike_20 (by decide) ?_
    obtain ⟨rfl, rfl⟩ := Prod.mk.inj (Option.some.inj h)
    exact W.zret hx hb hr rfl (R_end hB) hB.2.2.2.2 dX11_isAlike_21
  · replace h := itp h c_4
    refine lv_iconst (v := 1) hx hb dX11_isAlike_16 (by decide) ?_
    refine lv_goto (tgt := 21) hx hb dX11_isAlike_17 (by decide) ?_
    obtain ⟨rfl, rfl⟩ := Prod.mk.inj (Option.some.inj h)
    exact W.zret hx hb hr rfl (R_end hB) hB.2.2.2.2 dX11_isAlike_21
def f_X11_numberOf_b9 (σ1 : Hp) : Option (Int32 × Hp) := b2 (f_X11_refuse (-5 : Int32) σ1) (fun r_2 s_3 => some (r_2, s_3))
def f_X11_numberOf (a1 : Int64) (a3 : Int32) (σ : Hp) : Option (Int32 × Hp) := if a3 < 0 then f_X11_numberOf_b9 σ else if a3 ≤ (3 : Int32) then b2 (f_X11_isNumber a1 σ) (fun r_6 s_7 => if r_6 = 0 then b2 (f_X11_refuse (-6 : Int32) s_7) (fun r_26 s_27 => some (r_26, s_27)) else if a3 = 0 then b2 (f_X1_howMany a1 (hI s_7 1 0) s_7) (fun r_11 s_12 => some (r_11, s_12)) else (if a3 = 1 then b2 (f_X1_together a1 (hI s_7 1 0) (1 : Int32) s_7) (fun r_15 s_16 => some (r_15.toInt32, s_16)) else (if a3 = 2 then b2 (f_X11_isAlike a1 s_7) (fun r_19 s_20 => if r_19 = 0 then some ((0 : Int32), s_20) else some ((1 : Int32), s_20)) else (b2 (f_X1_checkOf a1 (hI s_7 1 0) s_7) (fun r_23 s_24 => some (r_23, s_24)))))) else f_X11_numberOf_b9 σ
set_option maxHeartbeats 4000000 in
set_option maxRecDepth 100000 in
theorem c_X11_numberOf (l : Launch) (g : tG) (P : Nat → Nat) (σ : Hp) (a1 : Int64) (a3 : Int32) (sz : Nat) {r : Int32} {τ : Hp} (h : f_X11_numberOf a1 a3 σ = some (r, τ)) : Met l yX11_numberOf (Cond.code yX11_numberOf cX11_numberOf 4 (some .int) :: tblG) ({ frames := 2, cells := 0, slots := 0, locals := 49 }) (va_Pc [.ref (gL g 0), .long a1, .int a3] (tPre g P σ sz)) (tQ (some (.int r)) (tPost g P τ (va_A (wC g P σ) sz)) (va_A (wC g P σ) sz)) 0 0 (va_A (wC g P σ) sz) := by
  refine T_start (B := fun A => tPost g P τ A) (by decide) (Nat.le_of_ble_eq_true rfl) ?_
  intro p e s m args below meth c ls0 A hx hb hml hr hown hlocks ht hnm hK hZ hA hB0 hl0
  have hb_9 : ∀ (σ1 : Hp) (H : Heap) (locs : List Loc) (ls : Array Slot), f_X11_numberOf_b9 σ1 = some (r, τ) → tB g P σ1 A s.heap H locs → lv_has ls 4 [(0, .ref (gL g 0))] → WQ p l e { frames := 2, cells := 0, slots := 0, locals := 49 } s m args below meth c g P A (some (.int r)) τ H locs (F0 m 9 ls []) := by
    intro σ1 H locs ls h hB hl
    unfold f_X11_numberOf_b9 at h
    refine lv_aload_n hx hb dX11_numberOf_9 rfl (lv_at hl 0 rfl) ?_
    refine lv_bipush (v := -5) hx hb dX11_numberOf_10 (by decide) ?_
    replace h := b2_eq h; obtain ⟨r_2, s_3, hc_4, h⟩ := h
    refine R_call (rest := []) [.int r_2] (R_runV (n := 1) (As := [.int (-5 : Int32)]) ⟨hx, hb, hml, hown, ht⟩ (fun _ h9 => h9) hK hZ hA hB (c_X11_refuse l g P σ1 (-5 : Int32) H.size hc_4) (R_recv hK hB (by decide) (cell_0 rfl) rfl) tw178 tw175 tw177 pw1 tw1 ⟨by decide, by decide, by decide⟩ rfl rfl ⟨Nat.le_of_ble_eq_true rfl, Nat.le_of_ble_eq_true rfl⟩ rfl hl.1 rfl (Nat.le_of_ble_eq_true rfl) dX11_numberOf_12 ⟨Nat.zero_le _, Nat.zero_le _⟩) hB hA rfl (fun H locs hB => ?_)
    obtain ⟨rfl, rfl⟩ := Prod.mk.inj (Option.some.inj h)
    exact W.iret hx hb hr (R_end hB) hB.2.2.2.2 dX11_numberOf_15
  suffices hmain : ∀ (H : Heap) (locs : List Loc) (ls : Array Slot), tB g P σ A s.heap H locs → lv_has ls 4 [(0, .ref (gL g 0)), (1, .long a1), (3, .int a3)] → WQ p l e { frames := 2, cells := 0, slots := 0, locals := 49 } s m args below meth c g P A (some (.int r)) τ H locs (F0 m 0 ls []) from hmain _ _ ls0 hB0 hl0
  intro H locs ls hB hl
  unfold f_X11_numberOf at h
  refine lv_iload_n hx hb dX11_numberOf_0 rfl (lv_at hl 2 rfl) ?_
  refine lv_if_lt (tgt := 9) hx hb dX11_numberOf_1 (by decide) (fun c_1 => ?_) (fun c_1 => ?_)
  · replace h := itp h c_1
    exact hb_9 σ H locs ls h hB (lv_sub hl [0] rfl)
  · replace h := itn h c_1
    refine lv_iload_n hx hb dX11_numberOf_4 rfl (lv_at hl 2 rfl) ?_
    refine lv_iconst (v := 3) hx hb dX11_numberOf_5 (by decide) ?_
    refine lv_icmp_le (tgt := 16) hx hb dX11_numberOf_6 (by decide) (fun c_5 => ?_) (fun c_5 => ?_)
    · replace h := itp h c_5
      refine lv_lload_n hx hb dX11_numberOf_16 rfl (lv_at hl 1 rfl) ?_
      replace h := b2_eq h; obtain ⟨r_6, s_7, hc_8, h⟩ := h
      refine R_call (rest := []) [.int r_6] (R_runS (n := 1) (As := [.long a1]) ⟨hx, hb, hml, hown, ht⟩ (fun _ h9 => h9) hK hZ hA hB (c_X11_isNumber l g P σ a1 H.size hc_8) tw622 tw620 tw621 tw1 ⟨by decide, by decide, by decide⟩ rfl rfl ⟨Nat.le_of_ble_eq_true rfl, Nat.le_of_ble_eq_true rfl⟩ rfl hl.1 rfl (Nat.le_of_ble_eq_true rfl) dX11_numberOf_17 ⟨Nat.zero_le _, Nat.zero_le _⟩) hB hA rfl (fun H locs hB => ?_)
      refine lv_if_ne (tgt := 30) hx hb dX11_numberOf_20 (by decide) (fun c_9 => ?_) (fun c_9 => ?_)
      · replace h := itn h c_9
        refine lv_iload_n hx hb dX11_numberOf_30 rfl (lv_at hl 2 rfl) ?_
        by_cases c_10 : a3 = 0
        · replace h := itp h c_10
          refine lv_tableIn (tgt := 56) hx hb dX11_numberOf_31 (by rw [c_10]; decide) (by rw [c_10]; decide) (by rw [c_10]; rfl) (by decide) ?_
          refine lv_lload_n hx hb dX11_numberOf_56 rfl (lv_at hl 1 rfl) ?_
          refine lv_aload_n hx hb dX11_numberOf_57 rfl (lv_at hl 0 rfl) ?_
          refine R_get (v := .ref (gL g 1)) hx hb ht ui_X11 hown hK hB (by decide) (cell_0 rfl) rfl 0 (by decide) (ht _ tw130) (fun _ h9 => h9) rfl dX11_numberOf_58 ?_
          refine R_get (v := .int (hI s_7 1 0)) hx hb ht ui_X7 hown hK hB (by decide) (cell_1 rfl) rfl 0 (by decide) (ht _ tw46) (fun _ h9 => h9) rfl dX11_numberOf_61 ?_
          replace h := b2_eq h; obtain ⟨r_11, s_12, hc_13, h⟩ := h
          refine R_call (rest := []) [.int r_11] (R_runS (n := 2) (As := [.long a1, .int (hI s_7 1 0)]) ⟨hx, hb, hml, hown, ht⟩ (fun _ h9 => h9) hK hZ hA hB (c_X1_howMany l g P s_7 a1 (hI s_7 1 0) H.size hc_13) tw631 tw629 tw630 tw8 ⟨by decide, by decide, by decide⟩ rfl rfl ⟨Nat.le_of_ble_eq_true rfl, Nat.le_of_ble_eq_true rfl⟩ rfl hl.1 rfl (Nat.le_of_ble_eq_true rfl) dX11_numberOf_64 ⟨Nat.zero_le _, Nat.zero_le _⟩) hB hA rfl (fun H locs hB => ?_)
          obtain ⟨rfl, rfl⟩ := Prod.mk.inj (Option.some.inj h)
          exact W.iret hx hb hr (R_end hB) hB.2.2.2.2 dX11_numberOf_67
        · replace h := itn h c_10
          by_cases c_14 : a3 = 1
          · replace h := itp h c_14
            refine lv_tableIn (tgt := 68) hx hb dX11_numberOf_31 (by rw [c_14]; decide) (by rw [c_14]; decide) (by rw [c_14]; rfl) (by decide) ?_
            refine lv_lload_n hx hb dX11_numberOf_68 rfl (lv_at hl 1 rfl) ?_
            refine lv_aload_n hx hb dX11_numberOf_69 rfl (lv_at hl 0 rfl) ?_
            refine R_get (v := .ref (gL g 1)) hx hb ht ui_X11 hown hK hB (by decide) (cell_0 rfl) rfl 0 (by decide) (ht _ tw130) (fun _ h9 => h9) rfl dX11_numberOf_70 ?_
            refine R_get (v := .int (hI s_7 1 0)) hx hb ht ui_X7 hown hK hB (by decide) (cell_1 rfl) rfl 0 (by decide) (ht _ tw46) (fun _ h9 => h9) rfl dX11_numberOf_73 ?_
            refine lv_iconst (v := 1) hx hb dX11_numberOf_76 (by decide) ?_
            replace h := b2_eq h; obtain ⟨r_15, s_16, hc_17, h⟩ := h
            refine R_call (rest := []) [.long r_15] (R_runS (n := 3) (As := [.long a1, .int (hI s_7 1 0), .int (1 : Int32)]) ⟨hx, hb, hml, hown, ht⟩ (fun _ h9 => h9) hK hZ hA hB (c_X1_together l g P s_7 a1 (hI s_7 1 0) (1 : Int32) H.size hc_17) tw301 tw632 tw300 tw8 ⟨by decide, by decide, by decide⟩ rfl rfl ⟨Nat.le_of_ble_eq_true rfl, Nat.le_of_ble_eq_true rfl⟩ rfl hl.1 rfl (Nat.le_of_ble_eq_true rfl) dX11_numberOf_77 ⟨Nat.zero_le _, Nat.zero_le _⟩) hB hA rfl (fun H locs hB => ?_)
            refine lv_l2i (v := r_15.toInt32) hx hb dX11_numberOf_80 rfl ?_
            obtain ⟨rfl, rfl⟩ := Prod.mk.inj (Option.some.inj h)
            exact W.iret hx hb hr (R_end hB) hB.2.2.2.2 dX11_numberOf_81
          · replace h := itn h c_14
            by_cases c_18 : a3 = 2
            · replace h := itp h c_18
              refine lv_tableIn (tgt := 82) hx hb dX11_numberOf_31 (by rw [c_18]; decide) (by rw [c_18]; decide) (by rw [c_18]; rfl) (by decide) ?_
              refine lv_aload_n hx hb dX11_numberOf_82 rfl (lv_at hl 0 rfl) ?_
              refine lv_lload_n hx hb dX11_numberOf_83 rfl (lv_at hl 1 rfl) ?_
              replace h := b2_eq h; obtain ⟨r_19, s_20, hc_21, h⟩ := h
              refine R_call (rest := []) [.int r_19] (R_runV (n := 1) (As := [.long a1]) ⟨hx, hb, hml, hown, ht⟩ (fun _ h9 => h9) hK hZ hA hB (c_X11_isAlike l g P s_7 a1 H.size hc_21) (R_recv hK hB (by decide) (cell_0 rfl) rfl) tw636 tw633 tw635 pw14 tw1 ⟨by decide, by decide, by decide⟩ rfl rfl ⟨Nat.le_of_ble_eq_true rfl, Nat.le_of_ble_eq_true rfl⟩ rfl hl.1 rfl (Nat.le_of_ble_eq_true rfl) dX11_numberOf_84 ⟨Nat.zero_le _, Nat.zero_le _⟩) hB hA rfl (fun H locs hB => ?_)
              refine lv_if_eq (tgt := 94) hx hb dX11_numberOf_87 (by decide) (fun c_22 => ?_) (fun c_22 => ?_)
              · replace h := itp h c_22
                refine lv_iconst (v := 0) hx hb dX11_numberOf_94 (by decide) ?_
                obtain ⟨rfl, rfl⟩ := Prod.mk.inj (Option.some.inj h)
                exact W.iret hx hb hr (R_end hB) hB.2.2.2.2 dX11_numberOf_95
              · replace h := itn h c_22
                refine lv_iconst (v := 1) hx hb dX11_numberOf_90 (by decide) ?_
                refine lv_goto (tgt := 95) hx hb dX11_numberOf_91 (by decide) ?_
                obtain ⟨rfl, rfl⟩ := Prod.mk.inj (Option.some.inj h)
                exact W.iret hx hb hr (R_end hB) hB.2.2.2.2 dX11_numberOf_95
            · replace h := itn h c_18
              refine lv_tableOut (tgt := 96) hx hb dX11_numberOf_31 (sw_out (lo := 0) (hi := 2) (by decide) (by decide) (fun k h1 h2 => by rcases (show k = 0 ∨ k = 1 ∨ k = 2 by omega) with rfl | rfl | rfl <;> assumption)) (by decide) ?_
              refine lv_lload_n hx hb dX11_numberOf_96 rfl (lv_at hl 1 rfl) ?_
              refine lv_aload_n hx hb dX11_numberOf_97 rfl (lv_at hl 0 rfl) ?_
              refine R_get (v := .ref (gL g 1)) hx hb ht ui_X11 hown hK hB (by decide) (cell_0 rfl) rfl 0 (by decide) (ht _ tw130) (fun _ h9 => h9) rfl dX11_numberOf_98 ?_
              refine R_get (v := .int (hI s_7 1 0)) hx hb ht ui_X7 hown hK hB (by decide) (cell_1 rfl) rfl 0 (by decide) (ht _ tw46) (fun _ h9 => h9) rfl dX11_numberOf_101 ?_
              replace h := b2_eq h; obtain ⟨r_23, s_24, hc_25, h⟩ := h
              refine R_call (rest := []) [.int r_23] (R_runS (n := 2) (As := [.long a1, .int (hI s_7 1 0)]) ⟨hx, hb, hml, hown, ht⟩ (fun _ h9 => h9) hK hZ hA hB (c_X1_checkOf l g P s_7 a1 (hI s_7 1 0) H.size hc_25) tw639 tw637 tw638 tw8 ⟨by decide, by decide, by decide⟩ rfl rfl ⟨Nat.le_of_ble_eq_true rfl, Nat.le_of_ble_eq_true rfl⟩ rfl hl.1 rfl (Nat.le_of_ble_eq_true rfl) dX11_numberOf_104 ⟨Nat.zero_le _, Nat.zero_le _⟩) hB hA rfl (fun H locs hB => ?_)
              obtain ⟨rfl, rfl⟩ := Prod.mk.inj (Option.some.inj h)
              exact W.iret hx hb hr (R_end hB) hB.2.2.2.2 dX11_numberOf_107
      · replace h := itp h c_9
        refine lv_aload_n hx hb dX11_numberOf_23 rfl (lv_at hl 0 rfl) ?_
        refine lv_bipush (v := -6) hx hb dX11_numberOf_24 (by decide) ?_
        replace h := b2_eq h; obtain ⟨r_26, s_27, hc_28, h⟩ := h
        refine R_call (rest := []) [.int r_26] (R_runV (n := 1) (As := [.int (-6 : Int32)]) ⟨hx, hb, hml, hown, ht⟩ (fun _ h9 => h9) hK hZ hA hB (c_X11_refuse l g P s_7 (-6 : Int32) H.size hc_28) (R_recv hK hB (by decide) (cell_0 rfl) rfl) tw178 tw175 tw177 pw1 tw1 ⟨by decide, by decide, by decide⟩ rfl rfl ⟨Nat.le_of_ble_eq_true rfl, Nat.le_of_ble_eq_true rfl⟩ rfl hl.1 rfl (Nat.le_of_ble_eq_true rfl) dX11_numberOf_26 ⟨Nat.zero_le _, Nat.zero_le _⟩) hB hA rfl (fun H locs hB => ?_)
        obtain ⟨rfl, rfl⟩ := Prod.mk.inj (Option.some.inj h)
        exact W.iret hx hb hr (R_end hB) hB.2.2.2.2 dX11_numberOf_29
    · replace h := itn h c_5
      exact hb_9 σ H locs ls h hB (lv_sub hl [0] rfl)
def f_X11_waits (a1 : Int64) (σ : Hp) : Option (Int64 × Hp) := b2 (f_X11_isNumber a1 σ) (fun r_1 s_2 => if r_1 = 0 then b2 (f_X11_refuse (-6 : Int32) s_2) (fun r_15 s_16 => some (r_15.toInt64, s_16)) else b2 (f_X1_alikeFrom a1 (hI s_2 1 0) s_2) (fun r_5 s_6 => b2 (f_X11_isNumber r_5 s_6) (fun r_8 s_9 => if r_8 = 0 then b2 (f_X11_refuse (-6 : Int32) s_9) (fun r_12 s_13 => some (r_12.toInt64, s_13)) else some ((r_5 - a1), s_9))))
set_option maxHeartbeats 4000000 in
set_option maxRecDepth 100000 in
theorem c_X11_waits (l : Launch) (g : tG) (P : Nat → Nat) (σ : Hp) (a1 : Int64) (sz : Nat) {r : Int64} {τ : Hp} (h : f_X11_waits a1 σ = some (r, τ)) : Met l yX11_waits (Cond.code yX11_waits cX11_waits 5 (some .long) :: tblG) ({ frames := 2, cells := 0, slots := 0, locals := 55 }) (va_Pc [.ref (gL g 0), .long a1] (tPre g P σ sz)) (tQ (some (.long r)) (tPost g P τ (va_A (wC g P σ) sz)) (va_A (wC g P σ) sz)) 0 0 (va_A (wC g P σ) sz) := by
  refine T_start (B := fun A => tPost g P τ A) (by decide) (Nat.le_of_ble_eq_true rfl) ?_
  intro p e s m args below meth c ls0 A hx hb hml hr hown hlocks ht hnm hK hZ hA hB0 hl0
  suffices hmain : ∀ (H : Heap) (locs : List Loc) (ls : Array Slot), tB g P σ A s.heap H locs → lv_has ls 5 [(0, .ref (gL g 0)), (1, .long a1)] → WQ p l e { frames := 2, cells := 0, slots := 0, locals := 55 } s m args below meth c g P A (some (.long r)) τ H locs (F0 m 0 ls []) from hmain _ _ ls0 hB0 hl0
  intro H locs ls hB hl
  unfold f_X11_waits at h
  refine lv_lload_n hx hb dX11_waits_0 rfl (lv_at hl 1 rfl) ?_
  replace h := b2_eq h; obtain ⟨r_1, s_2, hc_3, h⟩ := h
  refine R_call (rest := []) [.int r_1] (R_runS (n := 1) (As := [.long a1]) ⟨hx, hb, hml, hown, ht⟩ (fun _ h9 => h9) hK hZ hA hB (c_X11_isNumber l g P σ a1 H.size hc_3) tw622 tw620 tw621 tw1 ⟨by decide, by decide, by decide⟩ rfl rfl ⟨Nat.le_of_ble_eq_true rfl, Nat.le_of_ble_eq_true rfl⟩ rfl hl.1 rfl (Nat.le_of_ble_eq_true rfl) dX11_waits_1 ⟨Nat.zero_le _, Nat.zero_le _⟩) hB hA rfl (fun H locs hB => ?_)
  refine lv_if_ne (tgt := 15) hx hb dX11_waits_4 (by decide) (fun c_4 => ?_) (fun c_4 => ?_)
  · replace h := itn h c_4
    refine lv_lload_n hx hb dX11_waits_15 rfl (lv_at hl 1 rfl) ?_
    refine lv_aload_n hx hb dX11_waits_16 rfl (lv_at hl 0 rfl) ?_
    refine R_get (v := .ref (gL g 1)) hx hb ht ui_X11 hown hK hB (by decide) (cell_0 rfl) rfl 0 (by decide) (ht _ tw130) (fun _ h9 => h9) rfl dX11_waits_17 ?_
    refine R_get (v := .int (hI s_2 1 0)) hx hb ht ui_X7 hown hK hB (by decide) (cell_1 rfl) rfl 0 (by decide) (ht _ tw46) (fun _ h9 => h9) rfl dX11_waits_20 ?_
    replace h := b2_eq h; obtain ⟨r_5, s_6, hc_7, h⟩ := h
    refine R_call (rest := []) [.long r_5] (R_runS (n := 2) (As := [.long a1, .int (hI s_2 1 0)]) ⟨hx, hb, hml, hown, ht⟩ (fun _ h9 => h9) hK hZ hA hB (c_X1_alikeFrom l g P s_2 a1 (hI s_2 1 0) H.size hc_7) tw646 tw644 tw645 tw8 ⟨by decide, by decide, by decide⟩ rfl rfl ⟨Nat.le_of_ble_eq_true rfl, Nat.le_of_ble_eq_true rfl⟩ rfl hl.1 rfl (Nat.le_of_ble_eq_true rfl) dX11_waits_23 ⟨Nat.zero_le _, Nat.zero_le _⟩) hB hA rfl (fun H locs hB => ?_)
    refine lv_lstore_n (lv' := [(3, .long r_5), (0, .ref (gL g 0)), (1, .long a1)]) hx hb dX11_waits_26 rfl hl (by decide) rfl (fun ls hl => ?_)
    refine lv_lload_n hx hb dX11_waits_27 rfl (lv_at hl 0 rfl) ?_
    replace h := b2_eq h; obtain ⟨r_8, s_9, hc_10, h⟩ := h
    refine R_call (rest := []) [.int r_8] (R_runS (n := 1) (As := [.long r_5]) ⟨hx, hb, hml, hown, ht⟩ (fun _ h9 => h9) hK hZ hA hB (c_X11_isNumber l g P s_6 r_5 H.size hc_10) tw622 tw620 tw621 tw1 ⟨by decide, by decide, by decide⟩ rfl rfl ⟨Nat.le_of_ble_eq_true rfl, Nat.le_of_ble_eq_true rfl⟩ rfl hl.1 rfl (Nat.le_of_ble_eq_true rfl) dX11_waits_28 ⟨Nat.zero_le _, Nat.zero_le _⟩) hB hA rfl (fun H locs hB => ?_)
    refine lv_if_eq (tgt := 40) hx hb dX11_waits_31 (by decide) (fun c_11 => ?_) (fun c_11 => ?_)
    · replace h := itp h c_11
      refine lv_aload_n hx hb dX11_waits_40 rfl (lv_at hl 1 rfl) ?_
      refine lv_bipush (v := -6) hx hb dX11_waits_41 (by decide) ?_
      replace h := b2_eq h; obtain ⟨r_12, s_13, hc_14, h⟩ := h
      refine R_call (rest := []) [.int r_12] (R_runV (n := 1) (As := [.int (-6 : Int32)]) ⟨hx, hb, hml, hown, ht⟩ (fun _ h9 => h9) hK hZ hA hB (c_X11_refuse l g P s_9 (-6 : Int32) H.size hc_14) (R_recv hK hB (by decide) (cell_0 rfl) rfl) tw178 tw175 tw177 pw1 tw1 ⟨by decide, by decide, by decide⟩ rfl rfl ⟨Nat.le_of_ble_eq_true rfl, Nat.le_of_ble_eq_true rfl⟩ rfl hl.1 rfl (Nat.le_of_ble_eq_true rfl) dX11_waits_43 ⟨Nat.zero_le _, Nat.zero_le _⟩) hB hA rfl (fun H locs hB => ?_)
      refine lv_i2l (v := r_12.toInt64) hx hb dX11_waits_46 rfl ?_
      obtain ⟨rfl, rfl⟩ := Prod.mk.inj (Option.some.inj h)
      exact W.lret hx hb hr (R_end hB) hB.2.2.2.2 dX11_waits_47
    · replace h := itn h c_11
      refine lv_lload_n hx hb dX11_waits_34 rfl (lv_at hl 0 rfl) ?_
      refine lv_lload_n hx hb dX11_waits_35 rfl (lv_at hl 2 rfl) ?_
      refine lv_lsub hx hb dX11_waits_36 ?_
      refine lv_goto (tgt := 47) hx hb dX11_waits_37 (by decide) ?_
      obtain ⟨rfl, rfl⟩ := Prod.mk.inj (Option.some.inj h)
      exact W.lret hx hb hr (R_end hB) hB.2.2.2.2 dX11_waits_47
  · replace h := itp h c_4
    refine lv_aload_n hx hb dX11_waits_7 rfl (lv_at hl 0 rfl) ?_
    refine lv_bipush (v := -6) hx hb dX11_waits_8 (by decide) ?_
    replace h := b2_eq h; obtain ⟨r_15, s_16, hc_17, h⟩ := h
    refine R_call (rest := []) [.int r_15] (R_runV (n := 1) (As := [.int (-6 : Int32)]) ⟨hx, hb, hml, hown, ht⟩ (fun _ h9 => h9) hK hZ hA hB (c_X11_refuse l g P s_2 (-6 : Int32) H.size hc_17) (R_recv hK hB (by decide) (cell_0 rfl) rfl) tw178 tw175 tw177 pw1 tw1 ⟨by decide, by decide, by decide⟩ rfl rfl ⟨Nat.le_of_ble_eq_true rfl, Nat.le_of_ble_eq_true rfl⟩ rfl hl.1 rfl (Nat.le_of_ble_eq_true rfl) dX11_waits_10 ⟨Nat.zero_le _, Nat.zero_le _⟩) hB hA rfl (fun H locs hB => ?_)
    refine lv_i2l (v := r_15.toInt64) hx hb dX11_waits_13 rfl ?_
    obtain ⟨rfl, rfl⟩ := Prod.mk.inj (Option.some.inj h)
    exact W.lret hx hb hr (R_end hB) hB.2.2.2.2 dX11_waits_14
def f_X11_slip_b14 (σ1 : Hp) : Option (Int32 × Hp) := b2 (f_X11_refuse (-6 : Int32) σ1) (fun r_5 s_6 => some ((r_5 - (10 : Int32)), s_6))
def f_X11_slip (a1 : Int64) (a3 : Int64) (σ : Hp) : Option (Int32 × Hp) := b2 (f_X11_isNumber a1 σ) (fun r_1 s_2 => if r_1 = 0 then f_X11_slip_b14 s_2 else b2 (f_X11_isNumber a3 s_2) (fun r_8 s_9 => if r_8 = 0 then f_X11_slip_b14 s_9 else b2 (f_X1_turnedOf a1 (hI s_9 1 0) s_9) (fun r_12 s_13 => b2 (f_X1_firstUnlike (a1 + r_12) a3 (hI s_13 1 0) s_13) (fun r_15 s_16 => some (r_15, s_16)))))
set_option maxHeartbeats 4000000 in
set_option maxRecDepth 100000 in
theorem c_X11_slip (l : Launch) (g : tG) (P : Nat → Nat) (σ : Hp) (a1 : Int64) (a3 : Int64) (sz : Nat) {r : Int32} {τ : Hp} (h : f_X11_slip a1 a3 σ = some (r, τ)) : Met l yX11_slip (Cond.code yX11_slip cX11_slip 5 (some .int) :: tblG) ({ frames := 1, cells := 0, slots := 0, locals := 29 }) (va_Pc [.ref (gL g 0), .long a1, .long a3] (tPre g P σ sz)) (tQ (some (.int r)) (tPost g P τ (va_A (wC g P σ) sz)) (va_A (wC g P σ) sz)) 0 0 (va_A (wC g P σ) sz) := by
  refine T_start (B := fun A => tPost g P τ A) (by decide) (Nat.le_of_ble_eq_true rfl) ?_
  intro p e s m args below meth c ls0 A hx hb hml hr hown hlocks ht hnm hK hZ hA hB0 hl0
  have hb_14 : ∀ (σ1 : Hp) (H : Heap) (locs : List Loc) (ls : Array Slot), f_X11_slip_b14 σ1 = some (r, τ) → tB g P σ1 A s.heap H locs → lv_has ls 5 [(0, .ref (gL g 0))] → WQ p l e { frames := 1, cells := 0, slots := 0, locals := 29 } s m args below meth c g P A (some (.int r)) τ H locs (F0 m 14 ls []) := by
    intro σ1 H locs ls h hB hl
    unfold f_X11_slip_b14 at h
    refine lv_aload_n hx hb dX11_slip_14 rfl (lv_at hl 0 rfl) ?_
    refine lv_bipush (v := -6) hx hb dX11_slip_15 (by decide) ?_
    replace h := b2_eq h; obtain ⟨r_5, s_6, hc_7, h⟩ := h
    refine R_call (rest := []) [.int r_5] (R_runV (n := 1) (As := [.int (-6 : Int32)]) ⟨hx, hb, hml, hown, ht⟩ (fun _ h9 => h9) hK hZ hA hB (c_X11_refuse l g P σ1 (-6 : Int32) H.size hc_7) (R_recv hK hB (by decide) (cell_0 rfl) rfl) tw178 tw175 tw177 pw1 tw1 ⟨by decide, by decide, by decide⟩ rfl rfl ⟨Nat.le_of_ble_eq_true rfl, Nat.le_of_ble_eq_true rfl⟩ rfl hl.1 rfl (Nat.le_of_ble_eq_true rfl) dX11_slip_17 ⟨Nat.zero_le _, Nat.zero_le _⟩) hB hA rfl (fun H locs hB => ?_)
    refine lv_bipush (v := 10) hx hb dX11_slip_20 (by decide) ?_
    refine lv_isub hx hb dX11_slip_22 ?_
    obtain ⟨rfl, rfl⟩ := Prod.mk.inj (Option.some.inj h)
    exact W.iret hx hb hr (R_end hB) hB.2.2.2.2 dX11_slip_23
  suffices hmain : ∀ (H : Heap) (locs : List Loc) (ls : Array Slot), tB g P σ A s.heap H locs → lv_has ls 5 [(0, .ref (gL g 0)), (1, .long a1), (3, .long a3)] → WQ p l e { frames := 1, cells := 0, slots := 0, locals := 29 } s m args below meth c g P A (some (.int r)) τ H locs (F0 m 0 ls []) from hmain _ _ ls0 hB0 hl0
  intro H locs ls hB hl
  unfold f_X11_slip at h
  refine lv_lload_n hx hb dX11_slip_0 rfl (lv_at hl 1 rfl) ?_
  replace h := b2_eq h; obtain ⟨r_1, s_2, hc_3, h⟩ := h
  refine R_call (rest := []) [.int r_1] (R_runS (n := 1) (As := [.long a1]) ⟨hx, hb, hml, hown, ht⟩ (fun _ h9 => h9) hK hZ hA hB (c_X11_isNumber l g P σ a1 H.size hc_3) tw622 tw620 tw621 tw1 ⟨by decide, by decide, by decide⟩ rfl rfl ⟨Nat.le_of_ble_eq_true rfl, Nat.le_of_ble_eq_true rfl⟩ rfl hl.1 rfl (Nat.le_of_ble_eq_true rfl) dX11_slip_1 ⟨Nat.zero_le _, Nat.zero_le _⟩) hB hA rfl (fun H locs hB => ?_)
  refine lv_if_eq (tgt := 14) hx hb dX11_slip_4 (by decide) (fun c_4 => ?_) (fun c_4 => ?_)
  · replace h := itp h c_4
    exact hb_14 s_2 H locs ls h hB (lv_sub hl [0] rfl)
  · replace h := itn h c_4
    refine lv_lload_n hx hb dX11_slip_7 rfl (lv_at hl 2 rfl) ?_
    replace h := b2_eq h; obtain ⟨r_8, s_9, hc_10, h⟩ := h
    refine R_call (rest := []) [.int r_8] (R_runS (n := 1) (As := [.long a3]) ⟨hx, hb, hml, hown, ht⟩ (fun _ h9 => h9) hK hZ hA hB (c_X11_isNumber l g P s_2 a3 H.size hc_10) tw622 tw620 tw621 tw1 ⟨by decide, by decide, by decide⟩ rfl rfl ⟨Nat.le_of_ble_eq_true rfl, Nat.le_of_ble_eq_true rfl⟩ rfl hl.1 rfl (Nat.le_of_ble_eq_true rfl) dX11_slip_8 ⟨Nat.zero_le _, Nat.zero_le _⟩) hB hA rfl (fun H locs hB => ?_)
    refine lv_if_ne (tgt := 24) hx hb dX11_slip_11 (by decide) (fun c_11 => ?_) (fun c_11 => ?_)
    · replace h := itn h c_11
      refine lv_lload_n hx hb dX11_slip_24 rfl (lv_at hl 1 rfl) ?_
      refine lv_lload_n hx hb dX11_slip_25 rfl (lv_at hl 1 rfl) ?_
      refine lv_aload_n hx hb dX11_slip_26 rfl (lv_at hl 0 rfl) ?_
      refine R_get (v := .ref (gL g 1)) hx hb ht ui_X11 hown hK hB (by decide) (cell_0 rfl) rfl 0 (by decide) (ht _ tw130) (fun _ h9 => h9) rfl dX11_slip_27 ?_
      refine R_get (v := .int (hI s_9 1 0)) hx hb ht ui_X7 hown hK hB (by decide) (cell_1 rfl) rfl 0 (by decide) (ht _ tw46) (fun _ h9 => h9) rfl dX11_slip_30 ?_
      replace h := b2_eq h; obtain ⟨r_12, s_13, hc_14, h⟩ := h
      refine R_call (rest := [.long a1]) [.long r_12, .long a1] (R_runS (n := 2) (As := [.long a1, .int (hI s_9 1 0)]) ⟨hx, hb, hml, hown, ht⟩ (fun _ h9 => h9) hK hZ hA hB (c_X1_turnedOf l g P s_9 a1 (hI s_9 1 0) H.size hc_14) tw319 tw624 tw318 tw8 ⟨by decide, by decide, by decide⟩ rfl rfl ⟨Nat.le_of_ble_eq_true rfl, Nat.le_of_ble_eq_true rfl⟩ rfl hl.1 rfl (Nat.le_of_ble_eq_true rfl) dX11_slip_33 ⟨Nat.zero_le _, Nat.zero_le _⟩) hB hA rfl (fun H locs hB => ?_)
      refine lv_ladd hx hb dX11_slip_36 ?_
      refine lv_lload_n hx hb dX11_slip_37 rfl (lv_at hl 2 rfl) ?_
      refine lv_aload_n hx hb dX11_slip_38 rfl (lv_at hl 0 rfl) ?_
      refine R_get (v := .ref (gL g 1)) hx hb ht ui_X11 hown hK hB (by decide) (cell_0 rfl) rfl 0 (by decide) (ht _ tw130) (fun _ h9 => h9) rfl dX11_slip_39 ?_
      refine R_get (v := .int (hI s_13 1 0)) hx hb ht ui_X7 hown hK hB (by decide) (cell_1 rfl) rfl 0 (by decide) (ht _ tw46) (fun _ h9 => h9) rfl dX11_slip_42 ?_
      replace h := b2_eq h; obtain ⟨r_15, s_16, hc_17, h⟩ := h
      refine R_call (rest := []) [.int r_15] (R_runS (n := 3) (As := [.long (a1 + r_12), .long a3, .int (hI s_13 1 0)]) ⟨hx, hb, hml, hown, ht⟩ (fun _ h9 => h9) hK hZ hA hB (c_X1_firstUnlike l g P s_13 (a1 + r_12) a3 (hI s_13 1 0) H.size hc_17) tw657 tw655 tw656 tw8 ⟨by decide, by decide, by decide⟩ rfl rfl ⟨Nat.le_of_ble_eq_true rfl, Nat.le_of_ble_eq_true rfl⟩ rfl hl.1 rfl (Nat.le_of_ble_eq_true rfl) dX11_slip_45 ⟨Nat.zero_le _, Nat.zero_le _⟩) hB hA rfl (fun H locs hB => ?_)
      obtain ⟨rfl, rfl⟩ := Prod.mk.inj (Option.some.inj h)
      exact W.iret hx hb hr (R_end hB) hB.2.2.2.2 dX11_slip_48
    · replace h := itp h c_11
      exact hb_14 s_9 H locs ls h hB (lv_sub hl [0] rfl)
def f_X11_missed (a1 : Int64) (σ : Hp) : Option (Int32 × Hp) := b2 (f_X11_isNumber a1 σ) (fun r_1 s_2 => if r_1 = 0 then b2 (f_X11_refuse (-6 : Int32) s_2) (fun r_5 s_6 => some (r_5, s_6)) else b2 (f_X1_missedSlips a1 (hI s_2 1 0) s_2) (fun r_8 s_9 => some (r_8, s_9)))
set_option maxHeartbeats 4000000 in
set_option maxRecDepth 100000 in
theorem c_X11_missed (l : Launch) (g : tG) (P : Nat → Nat) (σ : Hp) (a1 : Int64) (sz : Nat) {r : Int32} {τ : Hp} (h : f_X11_missed a1 σ = some (r, τ)) : Met l yX11_missed (Cond.code yX11_missed cX11_missed 3 (some .int) :: tblG) ({ frames := 2, cells := 0, slots := 0, locals := 61 }) (va_Pc [.ref (gL g 0), .long a1] (tPre g P σ sz)) (tQ (some (.int r)) (tPost g P τ (va_A (wC g P σ) sz)) (va_A (wC g P σ) sz)) 0 0 (va_A (wC g P σ) sz) := by
  refine T_start (B := fun A => tPost g P τ A) (by decide) (Nat.le_of_ble_eq_true rfl) ?_
  intro p e s m args below meth c ls0 A hx hb hml hr hown hlocks ht hnm hK hZ hA hB0 hl0
  suffices hmain : ∀ (H : Heap) (locs : List Loc) (ls : Array Slot), tB g P σ A s.heap H locs → lv_has ls 3 [(0, .ref (gL g 0)), (1, .long a1)] → WQ p l e { frames := 2, cells := 0, slots := 0, locals := 61 } s m args below meth c g P A (some (.int r)) τ H locs (F0 m 0 ls []) from hmain _ _ ls0 hB0 hl0
  intro H locs ls hB hl
  unfold f_X11_missed at h
  refine lv_lload_n hx hb dX11_missed_0 rfl (lv_at hl 1 rfl) ?_
  replace h := b2_eq h; obtain ⟨r_1, s_2, hc_3, h⟩ := h
  refine R_call (rest := []) [.int r_1] (R_runS (n := 1) (As := [.long a1]) ⟨hx, hb, hml, hown, ht⟩ (fun _ h9 => h9) hK hZ hA hB (c_X11_isNumber l g P σ a1 H.size hc_3) tw622 tw620 tw621 tw1 ⟨by decide, by decide, by decide⟩ rfl rfl ⟨Nat.le_of_ble_eq_true rfl, Nat.le_of_ble_eq_true rfl⟩ rfl hl.1 rfl (Nat.le_of_ble_eq_true rfl) dX11_missed_1 ⟨Nat.zero_le _, Nat.zero_le _⟩) hB hA rfl (fun H locs hB => ?_)
  refine lv_if_eq (tgt := 21) hx hb dX11_missed_4 (by decide) (fun c_4 => ?_) (fun c_4 => ?_)
  · replace h := itp h c_4
    refine lv_aload_n hx hb dX11_missed_21 rfl (lv_at hl 0 rfl) ?_
    refine lv_bipush (v := -6) hx hb dX11_missed_22 (by decide) ?_
    replace h := b2_eq h; obtain ⟨r_5, s_6, hc_7, h⟩ := h
    refine R_call (rest := []) [.int r_5] (R_runV (n := 1) (As := [.int (-6 : Int32)]) ⟨hx, hb, hml, hown, ht⟩ (fun _ h9 => h9) hK hZ hA hB (c_X11_refuse l g P s_2 (-6 : Int32) H.size hc_7) (R_recv hK hB (by decide) (cell_0 rfl) rfl) tw178 tw175 tw177 pw1 tw1 ⟨by decide, by decide, by decide⟩ rfl rfl ⟨Nat.le_of_ble_eq_true rfl, Nat.le_of_ble_eq_true rfl⟩ rfl hl.1 rfl (Nat.le_of_ble_eq_true rfl) dX11_missed_24 ⟨Nat.zero_le _, Nat.zero_le _⟩) hB hA rfl (fun H locs hB => ?_)
    obtain ⟨rfl, rfl⟩ := Prod.mk.inj (Option.some.inj h)
    exact W.iret hx hb hr (R_end hB) hB.2.2.2.2 dX11_missed_27
  · replace h := itn h c_4
    refine lv_lload_n hx hb dX11_missed_7 rfl (lv_at hl 1 rfl) ?_
    refine lv_aload_n hx hb dX11_missed_8 rfl (lv_at hl 0 rfl) ?_
    refine R_get (v := .ref (gL g 1)) hx hb ht ui_X11 hown hK hB (by decide) (cell_0 rfl) rfl 0 (by decide) (ht _ tw130) (fun _ h9 => h9) rfl dX11_missed_9 ?_
    refine R_get (v := .int (hI s_2 1 0)) hx hb ht ui_X7 hown hK hB (by decide) (cell_1 rfl) rfl 0 (by decide) (ht _ tw46) (fun _ h9 => h9) rfl dX11_missed_12 ?_
    replace h := b2_eq h; obtain ⟨r_8, s_9, hc_10, h⟩ := h
    refine R_call (rest := []) [.int r_8] (R_runS (n := 2) (As := [.long a1, .int (hI s_2 1 0)]) ⟨hx, hb, hml, hown, ht⟩ (fun _ h9 => h9) hK hZ hA hB (c_X1_missedSlips l g P s_2 a1 (hI s_2 1 0) H.size hc_10) tw664 tw662 tw663 tw8 ⟨by decide, by decide, by decide⟩ rfl rfl ⟨Nat.le_of_ble_eq_true rfl, Nat.le_of_ble_eq_true rfl⟩ rfl hl.1 rfl (Nat.le_of_ble_eq_true rfl) dX11_missed_15 ⟨Nat.zero_le _, Nat.zero_le _⟩) hB hA rfl (fun H locs hB => ?_)
    refine lv_goto (tgt := 27) hx hb dX11_missed_18 (by decide) ?_
    obtain ⟨rfl, rfl⟩ := Prod.mk.inj (Option.some.inj h)
    exact W.iret hx hb hr (R_end hB) hB.2.2.2.2 dX11_missed_27
def f_X11_next (a1 : Int32) (a2 : Int64) (σ : Hp) : Option (Int64 × Hp) := b2 (f_X7_lawAt 1 a1 σ) (fun r_1 s_2 => cs r_1 (b2 (f_X11_refuse (-1 : Int32) s_2) (fun r_5 s_6 => some (r_5.toInt64, s_6))) (fun y_4 => b2 (f_X11_isNumber a2 s_2) (fun r_8 s_9 => if r_8 = 0 then b2 (f_X11_refuse (-6 : Int32) s_9) (fun r_20 s_21 => some (r_20.toInt64, s_21)) else ck (isLaw s_9 y_4 = true) (b2 (v_onward y_4 a2 1 s_9) (fun r_13 s_14 => if (lg_cmp r_13 (-1 : Int64)) = 0 then b2 (f_X11_refuse (-7 : Int32) s_14) (fun r_17 s_18 => some (r_17.toInt64, s_18)) else some (r_13, s_14))))))
set_option maxHeartbeats 4000000 in
set_option maxRecDepth 100000 in
theorem c_X11_next (l : Launch) (g : tG) (P : Nat → Nat) (σ : Hp) (a1 : Int32) (a2 : Int64) (sz : Nat) {r : Int64} {τ : Hp} (h : f_X11_next a1 a2 σ = some (r, τ)) : Met l yX11_next (Cond.code yX11_next cX11_next 7 (some .long) :: tblG) ({ frames := 3, cells := 0, slots := 0, locals := 85 }) (va_Pc [.ref (gL g 0), .int a1, .long a2] (tPre g P σ sz)) (tQ (some (.long r)) (tPost g P τ (va_A (wC g P σ) sz)) (va_A (wC g P σ) sz)) 0 0 (va_A (wC g P σ) sz) := by
  refine T_start (B := fun A => tPost g P τ A) (by decide) (Nat.le_of_ble_eq_true rfl) ?_
  intro p e s m args below meth c ls0 A hx hb hml hr hown hlocks ht hnm hK hZ hA hB0 hl0
  suffices hmain : ∀ (H : Heap) (locs : List Loc) (ls : Array Slot), tB g P σ A s.heap H locs → lv_has ls 7 [(0, .ref (gL g 0)), (1, .int a1), (2, .long a2)] → WQ p l e { frames := 3, cells := 0, slots := 0, locals := 85 } s m args below meth c g P A (some (.long r)) τ H locs (F0 m 0 ls []) from hmain _ _ ls0 hB0 hl0
  intro H locs ls hB hl
  unfold f_X11_next at h
  refine lv_aload_n hx hb dX11_next_0 rfl (lv_at hl 0 rfl) ?_
  refine R_get (v := .ref (gL g 1)) hx hb ht ui_X11 hown hK hB (by decide) (cell_0 rfl) rfl 0 (by decide) (ht _ tw130) (fun _ h9 => h9) rfl dX11_next_1 ?_
  refine lv_iload_n hx hb dX11_next_4 rfl (lv_at hl 1 rfl) ?_
  replace h := b2_eq h; obtain ⟨r_1, s_2, hc_3, h⟩ := h
  refine R_call (rest := []) [va_rf (Option.map P r_1)] (R_runV (n := 1) (As := [.int a1]) ⟨hx, hb, hml, hown, ht⟩ (fun _ h9 => h9) hK hZ hA hB (c_X7_lawAt l g P σ 1 a1 rfl H.size hc_3) (R_recv hK hB (by decide) (cell_1 rfl) rfl) tw228 tw225 tw226 tw227 tw2 ⟨by decide, by decide, by decide⟩ rfl rfl ⟨Nat.le_of_ble_eq_true rfl, Nat.le_of_ble_eq_true rfl⟩ rfl hl.1 rfl (Nat.le_of_ble_eq_true rfl) dX11_next_5 ⟨Nat.zero_le _, Nat.zero_le _⟩) hB hA rfl (fun H locs hB => ?_)
  refine lv_astoreR (lv' := [(4, va_rf (Option.map P r_1)), (0, .ref (gL g 0)), (1, .int a1), (2, .long a2)]) hx hb dX11_next_8 hl (by decide) rfl (fun ls hl => ?_)
  refine lv_aloadR hx hb dX11_next_10 (lv_at hl 0 rfl) ?_
  rcases r_1 with _ | y_4
  · replace h := cs_n h
    have hl : lv_has ls 7 [(4, .null), (0, .ref (gL g 0)), (1, .int a1), (2, .long a2)] := hl
    refine lv_ifnonnullN hx hb dX11_next_12 ?_
    refine lv_aload_n hx hb dX11_next_15 rfl (lv_at hl 1 rfl) ?_
    refine lv_iconst (v := -1) hx hb dX11_next_16 (by decide) ?_
    replace h := b2_eq h; obtain ⟨r_5, s_6, hc_7, h⟩ := h
    refine R_call (rest := []) [.int r_5] (R_runV (n := 1) (As := [.int (-1 : Int32)]) ⟨hx, hb, hml, hown, ht⟩ (fun _ h9 => h9) hK hZ hA hB (c_X11_refuse l g P s_2 (-1 : Int32) H.size hc_7) (R_recv hK hB (by decide) (cell_0 rfl) rfl) tw178 tw175 tw177 pw1 tw1 ⟨by decide, by decide, by decide⟩ rfl rfl ⟨Nat.le_of_ble_eq_true rfl, Nat.le_of_ble_eq_true rfl⟩ rfl hl.1 rfl (Nat.le_of_ble_eq_true rfl) dX11_next_17 ⟨Nat.zero_le _, Nat.zero_le _⟩) hB hA rfl (fun H locs hB => ?_)
    refine lv_i2l (v := r_5.toInt64) hx hb dX11_next_20 rfl ?_
    obtain ⟨rfl, rfl⟩ := Prod.mk.inj (Option.some.inj h)
    exact W.lret hx hb hr (R_end hB) hB.2.2.2.2 dX11_next_21
  · replace h := cs_s h
    have hl : lv_has ls 7 [(4, .ref (P y_4)), (0, .ref (gL g 0)), (1, .int a1), (2, .long a2)] := hl
    refine lv_ifnonnull (tgt := 22) hx hb dX11_next_12 (by decide) ?_
    refine lv_lload_n hx hb dX11_next_22 rfl (lv_at hl 3 rfl) ?_
    replace h := b2_eq h; obtain ⟨r_8, s_9, hc_10, h⟩ := h
    refine R_call (rest := []) [.int r_8] (R_runS (n := 1) (As := [.long a2]) ⟨hx, hb, hml, hown, ht⟩ (fun _ h9 => h9) hK hZ hA hB (c_X11_isNumber l g P s_2 a2 H.size hc_10) tw622 tw620 tw621 tw1 ⟨by decide, by decide, by decide⟩ rfl rfl ⟨Nat.le_of_ble_eq_true rfl, Nat.le_of_ble_eq_true rfl⟩ rfl hl.1 rfl (Nat.le_of_ble_eq_true rfl) dX11_next_23 ⟨Nat.zero_le _, Nat.zero_le _⟩) hB hA rfl (fun H locs hB => ?_)
    refine lv_if_ne (tgt := 37) hx hb dX11_next_26 (by decide) (fun c_11 => ?_) (fun c_11 => ?_)
    · replace h := itn h c_11
      refine lv_aload hx hb dX11_next_37 (lv_at hl 0 rfl) ?_
      refine lv_lload_n hx hb dX11_next_39 rfl (lv_at hl 3 rfl) ?_
      refine lv_aload_n hx hb dX11_next_40 rfl (lv_at hl 1 rfl) ?_
      refine R_get (v := .ref (gL g 1)) hx hb ht ui_X11 hown hK hB (by decide) (cell_0 rfl) rfl 0 (by decide) (ht _ tw130) (fun _ h9 => h9) rfl dX11_next_41 ?_
      replace h := ck_eq h; obtain ⟨q_12, h⟩ := h
      replace h := b2_eq h; obtain ⟨r_13, s_14, hc_15, h⟩ := h
      refine R_call (rest := []) [.long r_13] (dv_onward ⟨hx, hb, hml, hown, ht⟩ hK hZ hA hB q_12 rfl tw281 hc_15 (Nat.le_of_ble_eq_true rfl) (Nat.le_of_ble_eq_true rfl) hl.1 rfl (Nat.le_of_ble_eq_true rfl) dX11_next_44 (Nat.zero_le _) (Nat.zero_le _)) hB hA rfl (fun H locs hB => ?_)
      refine lv_lstore (lv' := [(5, .long r_13), (4, .ref (P y_4)), (0, .ref (gL g 0)), (1, .int a1), (2, .long a2)]) hx hb dX11_next_47 hl (by decide) rfl (fun ls hl => ?_)
      refine lv_lload hx hb dX11_next_49 (lv_at hl 0 rfl) ?_
      refine lv_ldc2 (v := -1) hx hb hown (ht _ tw670) dX11_next_51 ?_
      refine W.lcmp hx hb dX11_next_54 ?_
      refine lv_if_ne (tgt := 68) hx hb dX11_next_55 (by decide) (fun c_16 => ?_) (fun c_16 => ?_)
      · replace h := itn h c_16
        refine lv_lload hx hb dX11_next_68 (lv_at hl 0 rfl) ?_
        obtain ⟨rfl, rfl⟩ := Prod.mk.inj (Option.some.inj h)
        exact W.lret hx hb hr (R_end hB) hB.2.2.2.2 dX11_next_70
      · replace h := itp h c_16
        refine lv_aload_n hx hb dX11_next_58 rfl (lv_at hl 2 rfl) ?_
        refine lv_bipush (v := -7) hx hb dX11_next_59 (by decide) ?_
        replace h := b2_eq h; obtain ⟨r_17, s_18, hc_19, h⟩ := h
        refine R_call (rest := []) [.int r_17] (R_runV (n := 1) (As := [.int (-7 : Int32)]) ⟨hx, hb, hml, hown, ht⟩ (fun _ h9 => h9) hK hZ hA hB (c_X11_refuse l g P s_14 (-7 : Int32) H.size hc_19) (R_recv hK hB (by decide) (cell_0 rfl) rfl) tw178 tw175 tw177 pw1 tw1 ⟨by decide, by decide, by decide⟩ rfl rfl ⟨Nat.le_of_ble_eq_true rfl, Nat.le_of_ble_eq_true rfl⟩ rfl hl.1 rfl (Nat.le_of_ble_eq_true rfl) dX11_next_61 ⟨Nat.zero_le _, Nat.zero_le _⟩) hB hA rfl (fun H locs hB => ?_)
        refine lv_i2l (v := r_17.toInt64) hx hb dX11_next_64 rfl ?_
        refine lv_goto (tgt := 70) hx hb dX11_next_65 (by decide) ?_
        obtain ⟨rfl, rfl⟩ := Prod.mk.inj (Option.some.inj h)
        exact W.lret hx hb hr (R_end hB) hB.2.2.2.2 dX11_next_70
    · replace h := itp h c_11
      refine lv_aload_n hx hb dX11_next_29 rfl (lv_at hl 1 rfl) ?_
      refine lv_bipush (v := -6) hx hb dX11_next_30 (by decide) ?_
      replace h := b2_eq h; obtain ⟨r_20, s_21, hc_22, h⟩ := h
      refine R_call (rest := []) [.int r_20] (R_runV (n := 1) (As := [.int (-6 : Int32)]) ⟨hx, hb, hml, hown, ht⟩ (fun _ h9 => h9) hK hZ hA hB (c_X11_refuse l g P s_9 (-6 : Int32) H.size hc_22) (R_recv hK hB (by decide) (cell_0 rfl) rfl) tw178 tw175 tw177 pw1 tw1 ⟨by decide, by decide, by decide⟩ rfl rfl ⟨Nat.le_of_ble_eq_true rfl, Nat.le_of_ble_eq_true rfl⟩ rfl hl.1 rfl (Nat.le_of_ble_eq_true rfl) dX11_next_32 ⟨Nat.zero_le _, Nat.zero_le _⟩) hB hA rfl (fun H locs hB => ?_)
      refine lv_i2l (v := r_20.toInt64) hx hb dX11_next_35 rfl ?_
      obtain ⟨rfl, rfl⟩ := Prod.mk.inj (Option.some.inj h)
      exact W.lret hx hb hr (R_end hB) hB.2.2.2.2 dX11_next_36
def f_X11_behind_t6 (x1 : Nat) (x4 : Int32) (x5 : Int64) (x7 : Int32) (σ1 : Hp) : Option ((Int64 × Int32 × Hp) ⊕ (Int64 × Hp)) := if x4 ≤ x7 then ex (some (x5, σ1)) else if (lg_cmp x5 (-1 : Int64)) = 0 then ex (some (x5, σ1)) else ck (isLaw σ1 x1 = true) (b2 (v_onward x1 x5 1 σ1) (fun r_4 s_5 => some (.inl (r_4, (x7 + 1), s_5))))
def f_X11_behind_s6 (x1 : Nat) (x4 : Int32) (v : (Int64 × Int32 × Hp)) : Option ((Int64 × Int32 × Hp) ⊕ (Int64 × Hp)) := f_X11_behind_t6 x1 x4 v.1 v.2.1 v.2.2
def f_X11_behind (j1 : Nat) (a2 : Int64) (a4 : Int32) (σ : Hp) : Option (Int64 × Hp) := iter (f_X11_behind_s6 j1 a4) fuel (a2, (0 : Int32), σ)
set_option maxHeartbeats 4000000 in
set_option maxRecDepth 100000 in
theorem c_X11_behind (l : Launch) (g : tG) (P : Nat → Nat) (σ : Hp) (j1 : Nat) (a2 : Int64) (a4 : Int32) (sz : Nat) {r : Int64} {τ : Hp} (h : f_X11_behind j1 a2 a4 σ = some (r, τ)) : Met l yX11_behind (Cond.code yX11_behind cX11_behind 8 (some .long) :: tblG) ({ frames := 3, cells := 0, slots := 0, locals := 85 }) (va_Pc [.ref (gL g 0), .ref (P j1), .long a2, .int a4] (tPre g P σ sz)) (tQ (some (.long r)) (tPost g P τ (va_A (wC g P σ) sz)) (va_A (wC g P σ) sz)) 0 0 (va_A (wC g P σ) sz) := by
  refine T_start (B := fun A => tPost g P τ A) (by decide) (Nat.le_of_ble_eq_true rfl) ?_
  intro p e s m args below meth c ls0 A hx hb hml hr hown hlocks ht hnm hK hZ hA hB0 hl0
  have hL_6 : ∀ (x1 : Nat) (x4 : Int32) (n : Nat) (x5 : Int64) (x7 : Int32) (σ1 : Hp) (H : Heap) (locs : List Loc) (ls : Array Slot), iter (f_X11_behind_s6 x1 x4) n (x5, x7, σ1) = some (r, τ) → tB g P σ1 A s.heap H locs → lv_has ls 8 [(0, .ref (gL g 0)), (1, .ref (P x1)), (4, .int x4), (5, .long x5), (7, .int x7)] → WQ p l e { frames := 3, cells := 0, slots := 0, locals := 85 } s m args below meth c g P A (some (.long r)) τ H locs (F0 m 6 ls []) := by
    intro x1 x4 n
    induction n with
    | zero =>
      intro x5 x7 σ1 H locs ls h hB hl
      exact (iter_0 h).elim
    | succ n ih1 =>
      intro x5 x7 σ1 H locs ls h hB hl
      replace h := iter_eq h; obtain ⟨z1, hh1, hx1⟩ := h
      have h : f_X11_behind_t6 x1 x4 x5 x7 σ1 = some z1 := hh1
      clear hh1
      unfold f_X11_behind_t6 at h
      refine lv_iload hx hb dX11_behind_6 (lv_at hl 4 rfl) ?_
      refine lv_iload hx hb dX11_behind_8 (lv_at hl 2 rfl) ?_
      refine lv_icmp_ge (tgt := 40) hx hb dX11_behind_10 (by decide) (fun c_1 => ?_) (fun c_1 => ?_)
      · replace h := itp h c_1
        replace h := ex_eq h; obtain ⟨b1, h, hz1⟩ := h
        subst hz1
        have hz1 := (itk_inr hx1).symm
        subst hz1
        refine lv_lload hx hb dX11_behind_40 (lv_at hl 3 rfl) ?_
        obtain ⟨rfl, rfl⟩ := Prod.mk.inj (Option.some.inj h)
        exact W.lret hx hb hr (R_end hB) hB.2.2.2.2 dX11_behind_42
      · replace h := itn h c_1
        refine lv_lload hx hb dX11_behind_13 (lv_at hl 3 rfl) ?_
        refine lv_ldc2 (v := -1) hx hb hown (ht _ tw670) dX11_behind_15 ?_
        refine W.lcmp hx hb dX11_behind_18 ?_
        refine lv_if_eq (tgt := 40) hx hb dX11_behind_19 (by decide) (fun c_2 => ?_) (fun c_2 => ?_)
        · replace h := itp h c_2
          replace h := ex_eq h; obtain ⟨b1, h, hz1⟩ := h
          subst hz1
          have hz1 := (itk_inr hx1).symm
          subst hz1
          refine lv_lload hx hb dX11_behind_40 (lv_at hl 3 rfl) ?_
          obtain ⟨rfl, rfl⟩ := Prod.mk.inj (Option.some.inj h)
          exact W.lret hx hb hr (R_end hB) hB.2.2.2.2 dX11_behind_42
        · replace h := itn h c_2
          refine lv_aload_n hx hb dX11_behind_22 rfl (lv_at hl 1 rfl) ?_
          refine lv_lload hx hb dX11_behind_23 (lv_at hl 3 rfl) ?_
          refine lv_aload_n hx hb dX11_behind_25 rfl (lv_at hl 0 rfl) ?_
          refine R_get (v := .ref (gL g 1)) hx hb ht ui_X11 hown hK hB (by decide) (cell_0 rfl) rfl 0 (by decide) (ht _ tw130) (fun _ h9 => h9) rfl dX11_behind_26 ?_
          replace h := ck_eq h; obtain ⟨q_3, h⟩ := h
          replace h := b2_eq h; obtain ⟨r_4, s_5, hc_6, h⟩ := h
          refine R_call (rest := []) [.long r_4] (dv_onward ⟨hx, hb, hml, hown, ht⟩ hK hZ hA hB q_3 rfl tw281 hc_6 (Nat.le_of_ble_eq_true rfl) (Nat.le_of_ble_eq_true rfl) hl.1 rfl (Nat.le_of_ble_eq_true rfl) dX11_behind_29 (Nat.zero_le _) (Nat.zero_le _)) hB hA rfl (fun H locs hB => ?_)
          refine lv_lstore (lv' := [(5, .long r_4), (0, .ref (gL g 0)), (1, .ref (P x1)), (4, .int x4), (7, .int x7)]) hx hb dX11_behind_32 hl (by decide) rfl (fun ls hl => ?_)
          refine lv_iinc (v := x7 + 1) (lv' := [(7, .int (x7 + 1)), (5, .long r_4), (0, .ref (gL g 0)), (1, .ref (P x1)), (4, .int x4)]) hx hb dX11_behind_34 hl (k := 4) rfl rfl (by decide) rfl (fun ls hl => ?_)
          refine lv_goto (tgt := 6) hx hb dX11_behind_37 (by decide) ?_
          obtain rfl := Option.some.inj h
          exact ih1 r_4 (x7 + 1) s_5 H locs ls hx1 hB (lv_sub hl [2, 3, 4, 1, 0] rfl)
  suffices hmain : ∀ (H : Heap) (locs : List Loc) (ls : Array Slot), tB g P σ A s.heap H locs → lv_has ls 8 [(0, .ref (gL g 0)), (1, .ref (P j1)), (2, .long a2), (4, .int a4)] → WQ p l e { frames := 3, cells := 0, slots := 0, locals := 85 } s m args below meth c g P A (some (.long r)) τ H locs (F0 m 0 ls []) from hmain _ _ ls0 hB0 hl0
  intro H locs ls hB hl
  unfold f_X11_behind at h
  refine lv_lload_n hx hb dX11_behind_0 rfl (lv_at hl 2 rfl) ?_
  refine lv_lstore (lv' := [(5, .long a2), (0, .ref (gL g 0)), (1, .ref (P j1)), (2, .long a2), (4, .int a4)]) hx hb dX11_behind_1 hl (by decide) rfl (fun ls hl => ?_)
  refine lv_iconst (v := 0) hx hb dX11_behind_3 (by decide) ?_
  refine lv_istore (lv' := [(7, .int (0 : Int32)), (5, .long a2), (0, .ref (gL g 0)), (1, .ref (P j1)), (2, .long a2), (4, .int a4)]) hx hb dX11_behind_4 hl (by decide) rfl (fun ls hl => ?_)
  exact hL_6 j1 a4 fuel a2 (0 : Int32) σ H locs ls h hB (lv_sub hl [2, 3, 5, 1, 0] rfl)
def f_X11_after_b42 (σ1 : Hp) : Option (Int64 × Hp) := b2 (f_X11_refuse (-6 : Int32) σ1) (fun r_12 s_13 => some (r_12.toInt64, s_13))
def f_X11_after (a1 : Int32) (a2 : Int64) (a4 : Int32) (σ : Hp) : Option (Int64 × Hp) := b2 (f_X7_lawAt 1 a1 σ) (fun r_1 s_2 => cs r_1 (b2 (f_X11_refuse (-1 : Int32) s_2) (fun r_5 s_6 => some (r_5.toInt64, s_6))) (fun y_4 => b2 (f_X11_isNumber a2 s_2) (fun r_8 s_9 => if r_8 = 0 then f_X11_after_b42 s_9 else if a4 < 0 then f_X11_after_b42 s_9 else if a4 ≤ (1000 : Int32) then b2 (f_X11_behind y_4 a2 a4 s_9) (fun r_17 s_18 => if (lg_cmp r_17 (-1 : Int64)) = 0 then b2 (f_X11_refuse (-7 : Int32) s_18) (fun r_21 s_22 => some (r_21.toInt64, s_22)) else some (r_17, s_18)) else f_X11_after_b42 s_9)))
set_option maxHeartbeats 4000000 in
set_option maxRecDepth 100000 in
theorem c_X11_after (l : Launch) (g : tG) (P : Nat → Nat) (σ : Hp) (a1 : Int32) (a2 : Int64) (a4 : Int32) (sz : Nat) {r : Int64} {τ : Hp} (h : f_X11_after a1 a2 a4 σ = some (r, τ)) : Met l yX11_after (Cond.code yX11_after cX11_after 8 (some .long) :: tblG) ({ frames := 4, cells := 0, slots := 0, locals := 112 }) (va_Pc [.ref (gL g 0), .int a1, .long a2, .int a4] (tPre g P σ sz)) (tQ (some (.long r)) (tPost g P τ (va_A (wC g P σ) sz)) (va_A (wC g P σ) sz)) 0 0 (va_A (wC g P σ) sz) := by
  refine T_start (B := fun A => tPost g P τ A) (by decide) (Nat.le_of_ble_eq_true rfl) ?_
  intro p e s m args below meth c ls0 A hx hb hml hr hown hlocks ht hnm hK hZ hA hB0 hl0
  have hb_42 : ∀ (σ1 : Hp) (H : Heap) (locs : List Loc) (ls : Array Slot), f_X11_after_b42 σ1 = some (r, τ) → tB g P σ1 A s.heap H locs → lv_has ls 8 [(0, .ref (gL g 0))] → WQ p l e { frames := 4, cells := 0, slots := 0, locals := 112 } s m args below meth c g P A (some (.long r)) τ H locs (F0 m 42 ls []) := by
    intro σ1 H locs ls h hB hl
    unfold f_X11_after_b42 at h
    refine lv_aload_n hx hb dX11_after_42 rfl (lv_at hl 0 rfl) ?_
    refine lv_bipush (v := -6) hx hb dX11_after_43 (by decide) ?_
    replace h := b2_eq h; obtain ⟨r_12, s_13, hc_14, h⟩ := h
    refine R_call (rest := []) [.int r_12] (R_runV (n := 1) (As := [.int (-6 : Int32)]) ⟨hx, hb, hml, hown, ht⟩ (fun _ h9 => h9) hK hZ hA hB (c_X11_refuse l g P σ1 (-6 : Int32) H.size hc_14) (R_recv hK hB (by decide) (cell_0 rfl) rfl) tw178 tw175 tw177 pw1 tw1 ⟨by decide, by decide, by decide⟩ rfl rfl ⟨Nat.le_of_ble_eq_true rfl, Nat.le_of_ble_eq_true rfl⟩ rfl hl.1 rfl (Nat.le_of_ble_eq_true rfl) dX11_after_45 ⟨Nat.zero_le _, Nat.zero_le _⟩) hB hA rfl (fun H locs hB => ?_)
    refine lv_i2l (v := r_12.toInt64) hx hb dX11_after_48 rfl ?_
    obtain ⟨rfl, rfl⟩ := Prod.mk.inj (Option.some.inj h)
    exact W.lret hx hb hr (R_end hB) hB.2.2.2.2 dX11_after_49
  suffices hmain : ∀ (H : Heap) (locs : List Loc) (ls : Array Slot), tB g P σ A s.heap H locs → lv_has ls 8 [(0, .ref (gL g 0)), (1, .int a1), (2, .long a2), (4, .int a4)] → WQ p l e { frames := 4, cells := 0, slots := 0, locals := 112 } s m args below meth c g P A (some (.long r)) τ H locs (F0 m 0 ls []) from hmain _ _ ls0 hB0 hl0
  intro H locs ls hB hl
  unfold f_X11_after at h
  refine lv_aload_n hx hb dX11_after_0 rfl (lv_at hl 0 rfl) ?_
  refine R_get (v := .ref (gL g 1)) hx hb ht ui_X11 hown hK hB (by decide) (cell_0 rfl) rfl 0 (by decide) (ht _ tw130) (fun _ h9 => h9) rfl dX11_after_1 ?_
  refine lv_iload_n hx hb dX11_after_4 rfl (lv_at hl 1 rfl) ?_
  replace h := b2_eq h; obtain ⟨r_1, s_2, hc_3, h⟩ := h
  refine R_call (rest := []) [va_rf (Option.map P r_1)] (R_runV (n := 1) (As := [.int a1]) ⟨hx, hb, hml, hown, ht⟩ (fun _ h9 => h9) hK hZ hA hB (c_X7_lawAt l g P σ 1 a1 rfl H.size hc_3) (R_recv hK hB (by decide) (cell_1 rfl) rfl) tw228 tw225 tw226 tw227 tw2 ⟨by decide, by decide, by decide⟩ rfl rfl ⟨Nat.le_of_ble_eq_true rfl, Nat.le_of_ble_eq_true rfl⟩ rfl hl.1 rfl (Nat.le_of_ble_eq_true rfl) dX11_after_5 ⟨Nat.zero_le _, Nat.zero_le _⟩) hB hA rfl (fun H locs hB => ?_)
  refine lv_astoreR (lv' := [(5, va_rf (Option.map P r_1)), (0, .ref (gL g 0)), (1, .int a1), (2, .long a2), (4, .int a4)]) hx hb dX11_after_8 hl (by decide) rfl (fun ls hl => ?_)
  refine lv_aloadR hx hb dX11_after_10 (lv_at hl 0 rfl) ?_
  rcases r_1 with _ | y_4
  · replace h := cs_n h
    have hl : lv_has ls 8 [(5, .null), (0, .ref (gL g 0)), (1, .int a1), (2, .long a2), (4, .int a4)] := hl
    refine lv_ifnonnullN hx hb dX11_after_12 ?_
    refine lv_aload_n hx hb dX11_after_15 rfl (lv_at hl 1 rfl) ?_
    refine lv_iconst (v := -1) hx hb dX11_after_16 (by decide) ?_
    replace h := b2_eq h; obtain ⟨r_5, s_6, hc_7, h⟩ := h
    refine R_call (rest := []) [.int r_5] (R_runV (n := 1) (As := [.int (-1 : Int32)]) ⟨hx, hb, hml, hown, ht⟩ (fun _ h9 => h9) hK hZ hA hB (c_X11_refuse l g P s_2 (-1 : Int32) H.size hc_7) (R_recv hK hB (by decide) (cell_0 rfl) rfl) tw178 tw175 tw177 pw1 tw1 ⟨by decide, by decide, by decide⟩ rfl rfl ⟨Nat.le_of_ble_eq_true rfl, Nat.le_of_ble_eq_true rfl⟩ rfl hl.1 rfl (Nat.le_of_ble_eq_true rfl) dX11_after_17 ⟨Nat.zero_le _, Nat.zero_le _⟩) hB hA rfl (fun H locs hB => ?_)
    refine lv_i2l (v := r_5.toInt64) hx hb dX11_after_20 rfl ?_
    obtain ⟨rfl, rfl⟩ := Prod.mk.inj (Option.some.inj h)
    exact W.lret hx hb hr (R_end hB) hB.2.2.2.2 dX11_after_21
  · replace h := cs_s h
    have hl : lv_has ls 8 [(5, .ref (P y_4)), (0, .ref (gL g 0)), (1, .int a1), (2, .long a2), (4, .int a4)] := hl
    refine lv_ifnonnull (tgt := 22) hx hb dX11_after_12 (by decide) ?_
    refine lv_lload_n hx hb dX11_after_22 rfl (lv_at hl 3 rfl) ?_
    replace h := b2_eq h; obtain ⟨r_8, s_9, hc_10, h⟩ := h
    refine R_call (rest := []) [.int r_8] (R_runS (n := 1) (As := [.long a2]) ⟨hx, hb, hml, hown, ht⟩ (fun _ h9 => h9) hK hZ hA hB (c_X11_isNumber l g P s_2 a2 H.size hc_10) tw622 tw620 tw621 tw1 ⟨by decide, by decide, by decide⟩ rfl rfl ⟨Nat.le_of_ble_eq_true rfl, Nat.le_of_ble_eq_true rfl⟩ rfl hl.1 rfl (Nat.le_of_ble_eq_true rfl) dX11_after_23 ⟨Nat.zero_le _, Nat.zero_le _⟩) hB hA rfl (fun H locs hB => ?_)
    refine lv_if_eq (tgt := 42) hx hb dX11_after_26 (by decide) (fun c_11 => ?_) (fun c_11 => ?_)
    · replace h := itp h c_11
      exact hb_42 s_9 H locs ls h hB (lv_sub hl [1] rfl)
    · replace h := itn h c_11
      refine lv_iload hx hb dX11_after_29 (lv_at hl 4 rfl) ?_
      refine lv_if_lt (tgt := 42) hx hb dX11_after_31 (by decide) (fun c_15 => ?_) (fun c_15 => ?_)
      · replace h := itp h c_15
        exact hb_42 s_9 H locs ls h hB (lv_sub hl [1] rfl)
      · replace h := itn h c_15
        refine lv_iload hx hb dX11_after_34 (lv_at hl 4 rfl) ?_
        refine lv_sipush (v := 1000) hx hb dX11_after_36 (by decide) ?_
        refine lv_icmp_le (tgt := 50) hx hb dX11_after_39 (by decide) (fun c_16 => ?_) (fun c_16 => ?_)
        · replace h := itp h c_16
          refine lv_aload_n hx hb dX11_after_50 rfl (lv_at hl 1 rfl) ?_
          refine lv_aload hx hb dX11_after_51 (lv_at hl 0 rfl) ?_
          refine lv_lload_n hx hb dX11_after_53 rfl (lv_at hl 3 rfl) ?_
          refine lv_iload hx hb dX11_after_54 (lv_at hl 4 rfl) ?_
          replace h := b2_eq h; obtain ⟨r_17, s_18, hc_19, h⟩ := h
          refine R_call (rest := []) [.long r_17] (R_runV (n := 3) (As := [.ref (P y_4), .long a2, .int a4]) ⟨hx, hb, hml, hown, ht⟩ (fun _ h9 => h9) hK hZ hA hB (c_X11_behind l g P s_9 y_4 a2 a4 H.size hc_19) (R_recv hK hB (by decide) (cell_0 rfl) rfl) tw678 tw675 tw677 pw15 tw1 ⟨by decide, by decide, by decide⟩ rfl rfl ⟨Nat.le_of_ble_eq_true rfl, Nat.le_of_ble_eq_true rfl⟩ rfl hl.1 rfl (Nat.le_of_ble_eq_true rfl) dX11_after_56 ⟨Nat.zero_le _, Nat.zero_le _⟩) hB hA rfl (fun H locs hB => ?_)
          refine lv_lstore (lv' := [(6, .long r_17), (5, .ref (P y_4)), (0, .ref (gL g 0)), (1, .int a1), (2, .long a2), (4, .int a4)]) hx hb dX11_after_59 hl (by decide) rfl (fun ls hl => ?_)
          refine lv_lload hx hb dX11_after_61 (lv_at hl 0 rfl) ?_
          refine lv_ldc2 (v := -1) hx hb hown (ht _ tw670) dX11_after_63 ?_
          refine W.lcmp hx hb dX11_after_66 ?_
          refine lv_if_ne (tgt := 80) hx hb dX11_after_67 (by decide) (fun c_20 => ?_) (fun c_20 => ?_)
          · replace h := itn h c_20
            refine lv_lload hx hb dX11_after_80 (lv_at hl 0 rfl) ?_
            obtain ⟨rfl, rfl⟩ := Prod.mk.inj (Option.some.inj h)
            exact W.lret hx hb hr (R_end hB) hB.2.2.2.2 dX11_after_82
          · replace h := itp h c_20
            refine lv_aload_n hx hb dX11_after_70 rfl (lv_at hl 2 rfl) ?_
            refine lv_bipush (v := -7) hx hb dX11_after_71 (by decide) ?_
            replace h := b2_eq h; obtain ⟨r_21, s_22, hc_23, h⟩ := h
            refine R_call (rest := []) [.int r_21] (R_runV (n := 1) (As := [.int (-7 : Int32)]) ⟨hx, hb, hml, hown, ht⟩ (fun _ h9 => h9) hK hZ hA hB (c_X11_refuse l g P s_18 (-7 : Int32) H.size hc_23) (R_recv hK hB (by decide) (cell_0 rfl) rfl) tw178 tw175 tw177 pw1 tw1 ⟨by decide, by decide, by decide⟩ rfl rfl ⟨Nat.le_of_ble_eq_true rfl, Nat.le_of_ble_eq_true rfl⟩ rfl hl.1 rfl (Nat.le_of_ble_eq_true rfl) dX11_after_73 ⟨Nat.zero_le _, Nat.zero_le _⟩) hB hA rfl (fun H locs hB => ?_)
            refine lv_i2l (v := r_21.toInt64) hx hb dX11_after_76 rfl ?_
            refine lv_goto (tgt := 82) hx hb dX11_after_77 (by decide) ?_
            obtain ⟨rfl, rfl⟩ := Prod.mk.inj (Option.some.inj h)
            exact W.lret hx hb hr (R_end hB) hB.2.2.2.2 dX11_after_82
        · replace h := itn h c_16
          exact hb_42 s_9 H locs ls h hB (lv_sub hl [1] rfl)
def f_X11_countGoes_b70 (x1 : Nat) (x4 : Int64) (x6 : Int64) (x8 : Int32) (x9 : Int32) (σ1 : Hp) : Option ((Int64 × Int64 × Int32 × Int32 × Hp) ⊕ (Int32 × Hp)) := ck (isLaw σ1 x1 = true) (b2 (v_onward x1 x4 1 σ1) (fun r_10 s_11 => some (.inl (r_10, x6, x8, (x9 + 1), s_11))))
def f_X11_countGoes_t14 (x1 : Nat) (x4 : Int64) (x6 : Int64) (x8 : Int32) (x9 : Int32) (σ1 : Hp) : Option ((Int64 × Int64 × Int32 × Int32 × Hp) ⊕ (Int32 × Hp)) := if (200 : Int32) < x9 then ex (some ((-1 : Int32), σ1)) else if (lg_cmp x4 (-1 : Int64)) = 0 then ex (some ((-1 : Int32), σ1)) else b2 (f_X11_isAlike x4 σ1) (fun r_3 s_4 => if r_3 = 0 then if (lg_cmp x4 x6) = 0 then ex (some ((-1 : Int32), s_4)) else if x9 = x8 then f_X11_countGoes_b70 x1 x4 x4 ((2 : Int32) * x9) x9 s_4 else f_X11_countGoes_b70 x1 x4 x6 x8 x9 s_4 else ex (some (x9, s_4)))
def f_X11_countGoes_s14 (x1 : Nat) (v : (Int64 × Int64 × Int32 × Int32 × Hp)) : Option ((Int64 × Int64 × Int32 × Int32 × Hp) ⊕ (Int32 × Hp)) := f_X11_countGoes_t14 x1 v.1 v.2.1 v.2.2.1 v.2.2.2.1 v.2.2.2.2
def f_X11_countGoes (j1 : Nat) (a2 : Int64) (σ : Hp) : Option (Int32 × Hp) := iter (f_X11_countGoes_s14 j1) fuel (a2, (-1 : Int64), (1 : Int32), (0 : Int32), σ)
set_option maxHeartbeats 4000000 in
set_option maxRecDepth 100000 in
theorem c_X11_countGoes (l : Launch) (g : tG) (P : Nat → Nat) (σ : Hp) (j1 : Nat) (a2 : Int64) (sz : Nat) {r : Int32} {τ : Hp} (h : f_X11_countGoes j1 a2 σ = some (r, τ)) : Met l yX11_countGoes (Cond.code yX11_countGoes cX11_countGoes 10 (some .int) :: tblG) ({ frames := 3, cells := 0, slots := 0, locals := 85 }) (va_Pc [.ref (gL g 0), .ref (P j1), .long a2] (tPre g P σ sz)) (tQ (some (.int r)) (tPost g P τ (va_A (wC g P σ) sz)) (va_A (wC g P σ) sz)) 0 0 (va_A (wC g P σ) sz) := by
  refine T_start (B := fun A => tPost g P τ A) (by decide) (Nat.le_of_ble_eq_true rfl) ?_
  intro p e s m args below meth c ls0 A hx hb hml hr hown hlocks ht hnm hK hZ hA hB0 hl0
  have hL_14 : ∀ (x1 : Nat) (n : Nat) (x4 : Int64) (x6 : Int64) (x8 : Int32) (x9 : Int32) (σ1 : Hp) (H : Heap) (locs : List Loc) (ls : Array Slot), iter (f_X11_countGoes_s14 x1) n (x4, x6, x8, x9, σ1) = some (r, τ) → tB g P σ1 A s.heap H locs → lv_has ls 10 [(0, .ref (gL g 0)), (1, .ref (P x1)), (4, .long x4), (6, .long x6), (8, .int x8), (9, .int x9)] → WQ p l e { frames := 3, cells := 0, slots := 0, locals := 85 } s m args below meth c g P A (some (.int r)) τ H locs (F0 m 14 ls []) := by
    intro x1 n
    induction n with
    | zero =>
      intro x4 x6 x8 x9 σ1 H locs ls h hB hl
      exact (iter_0 h).elim
    | succ n ih1 =>
      intro x4 x6 x8 x9 σ1 H locs ls h hB hl
      replace h := iter_eq h; obtain ⟨z1, hh1, hx1⟩ := h
      have hb_70 : ∀ (x4 : Int64) (x6 : Int64) (x8 : Int32) (x9 : Int32) (σ1 : Hp) (H : Heap) (locs : List Loc) (ls : Array Slot), f_X11_countGoes_b70 x1 x4 x6 x8 x9 σ1 = some z1 → tB g P σ1 A s.heap H locs → lv_has ls 10 [(0, .ref (gL g 0)), (1, .ref (P x1)), (4, .long x4), (6, .long x6), (8, .int x8), (9, .int x9)] → WQ p l e { frames := 3, cells := 0, slots := 0, locals := 85 } s m args below meth c g P A (some (.int r)) τ H locs (F0 m 70 ls []) := by
        intro x4 x6 x8 x9 σ1 H locs ls h hB hl
        unfold f_X11_countGoes_b70 at h
        refine lv_aload_n hx hb dX11_countGoes_70 rfl (lv_at hl 1 rfl) ?_
        refine lv_lload hx hb dX11_countGoes_71 (lv_at hl 2 rfl) ?_
        refine lv_aload_n hx hb dX11_countGoes_73 rfl (lv_at hl 0 rfl) ?_
        refine R_get (v := .ref (gL g 1)) hx hb ht ui_X11 hown hK hB (by decide) (cell_0 rfl) rfl 0 (by decide) (ht _ tw130) (fun _ h9 => h9) rfl dX11_countGoes_74 ?_
        replace h := ck_eq h; obtain ⟨q_9, h⟩ := h
        replace h := b2_eq h; obtain ⟨r_10, s_11, hc_12, h⟩ := h
        refine R_call (rest := []) [.long r_10] (dv_onward ⟨hx, hb, hml, hown, ht⟩ hK hZ hA hB q_9 rfl tw281 hc_12 (Nat.le_of_ble_eq_true rfl) (Nat.le_of_ble_eq_true rfl) hl.1 rfl (Nat.le_of_ble_eq_true rfl) dX11_countGoes_77 (Nat.zero_le _) (Nat.zero_le _)) hB hA rfl (fun H locs hB => ?_)
        refine lv_lstore (lv' := [(4, .long r_10), (0, .ref (gL g 0)), (1, .ref (P x1)), (6, .long x6), (8, .int x8), (9, .int x9)]) hx hb dX11_countGoes_80 hl (by decide) rfl (fun ls hl => ?_)
        refine lv_iinc (v := x9 + 1) (lv' := [(9, .int (x9 + 1)), (4, .long r_10), (0, .ref (gL g 0)), (1, .ref (P x1)), (6, .long x6), (8, .int x8)]) hx hb dX11_countGoes_82 hl (k := 5) rfl rfl (by decide) rfl (fun ls hl => ?_)
        refine lv_goto (tgt := 14) hx hb dX11_countGoes_85 (by decide) ?_
        obtain rfl := Option.some.inj h
        exact ih1 r_10 x6 x8 (x9 + 1) s_11 H locs ls hx1 hB (lv_sub hl [2, 3, 1, 4, 5, 0] rfl)
      have h : f_X11_countGoes_t14 x1 x4 x6 x8 x9 σ1 = some z1 := hh1
      clear hh1
      unfold f_X11_countGoes_t14 at h
      refine lv_iload hx hb dX11_countGoes_14 (lv_at hl 5 rfl) ?_
      refine lv_sipush (v := 200) hx hb dX11_countGoes_16 (by decide) ?_
      refine lv_icmp_gt (tgt := 88) hx hb dX11_countGoes_19 (by decide) (fun c_1 => ?_) (fun c_1 => ?_)
      · replace h := itp h c_1
        replace h := ex_eq h; obtain ⟨b1, h, hz1⟩ := h
        subst hz1
        have hz1 := (itk_inr hx1).symm
        subst hz1
        refine lv_iconst (v := -1) hx hb dX11_countGoes_88 (by decide) ?_
        obtain ⟨rfl, rfl⟩ := Prod.mk.inj (Option.some.inj h)
        exact W.iret hx hb hr (R_end hB) hB.2.2.2.2 dX11_countGoes_89
      · replace h := itn h c_1
        refine lv_lload hx hb dX11_countGoes_22 (lv_at hl 2 rfl) ?_
        refine lv_ldc2 (v := -1) hx hb hown (ht _ tw670) dX11_countGoes_24 ?_
        refine W.lcmp hx hb dX11_countGoes_27 ?_
        refine lv_if_eq (tgt := 88) hx hb dX11_countGoes_28 (by decide) (fun c_2 => ?_) (fun c_2 => ?_)
        · replace h := itp h c_2
          replace h := ex_eq h; obtain ⟨b1, h, hz1⟩ := h
          subst hz1
          have hz1 := (itk_inr hx1).symm
          subst hz1
          refine lv_iconst (v := -1) hx hb dX11_countGoes_88 (by decide) ?_
          obtain ⟨rfl, rfl⟩ := Prod.mk.inj (Option.some.inj h)
          exact W.iret hx hb hr (R_end hB) hB.2.2.2.2 dX11_countGoes_89
        · replace h := itn h c_2
          refine lv_aload_n hx hb dX11_countGoes_31 rfl (lv_at hl 0 rfl) ?_
          refine lv_lload hx hb dX11_countGoes_32 (lv_at hl 2 rfl) ?_
          replace h := b2_eq h; obtain ⟨r_3, s_4, hc_5, h⟩ := h
          refine R_call (rest := []) [.int r_3] (R_runV (n := 1) (As := [.long x4]) ⟨hx, hb, hml, hown, ht⟩ (fun _ h9 => h9) hK hZ hA hB (c_X11_isAlike l g P σ1 x4 H.size hc_5) (R_recv hK hB (by decide) (cell_0 rfl) rfl) tw636 tw633 tw635 pw14 tw1 ⟨by decide, by decide, by decide⟩ rfl rfl ⟨Nat.le_of_ble_eq_true rfl, Nat.le_of_ble_eq_true rfl⟩ rfl hl.1 rfl (Nat.le_of_ble_eq_true rfl) dX11_countGoes_34 ⟨Nat.zero_le _, Nat.zero_le _⟩) hB hA rfl (fun H locs hB => ?_)
          refine lv_if_eq (tgt := 43) hx hb dX11_countGoes_37 (by decide) (fun c_6 => ?_) (fun c_6 => ?_)
          · replace h := itp h c_6
            refine lv_lload hx hb dX11_countGoes_43 (lv_at hl 2 rfl) ?_
            refine lv_lload hx hb dX11_countGoes_45 (lv_at hl 3 rfl) ?_
            refine W.lcmp hx hb dX11_countGoes_47 ?_
            refine lv_if_ne (tgt := 53) hx hb dX11_countGoes_48 (by decide) (fun c_7 => ?_) (fun c_7 => ?_)
            · replace h := itn h c_7
              refine lv_iload hx hb dX11_countGoes_53 (lv_at hl 5 rfl) ?_
              refine lv_iload hx hb dX11_countGoes_55 (lv_at hl 4 rfl) ?_
              refine lv_icmp_ne (tgt := 70) hx hb dX11_countGoes_57 (by decide) (fun c_8 => ?_) (fun c_8 => ?_)
              · replace h := itn h c_8
                exact hb_70 x4 x6 x8 x9 s_4 H locs ls h hB (lv_sub hl [0, 1, 2, 3, 4, 5] rfl)
              · replace h := itp h c_8
                refine lv_lload hx hb dX11_countGoes_60 (lv_at hl 2 rfl) ?_
                refine lv_lstore (lv' := [(6, .long x4), (0, .ref (gL g 0)), (1, .ref (P x1)), (4, .long x4), (8, .int x8), (9, .int x9)]) hx hb dX11_countGoes_62 hl (by decide) rfl (fun ls hl => ?_)
                refine lv_iconst (v := 2) hx hb dX11_countGoes_64 (by decide) ?_
                refine lv_iload hx hb dX11_countGoes_65 (lv_at hl 5 rfl) ?_
                refine lv_imul hx hb dX11_countGoes_67 ?_
                refine lv_istore (lv' := [(8, .int ((2 : Int32) * x9)), (6, .long x4), (0, .ref (gL g 0)), (1, .ref (P x1)), (4, .long x4), (9, .int x9)]) hx hb dX11_countGoes_68 hl (by decide) rfl (fun ls hl => ?_)
                exact hb_70 x4 x4 ((2 : Int32) * x9) x9 s_4 H locs ls h hB (lv_sub hl [2, 3, 4, 1, 0, 5] rfl)
            · replace h := itp h c_7
              replace h := ex_eq h; obtain ⟨b1, h, hz1⟩ := h
              subst hz1
              have hz1 := (itk_inr hx1).symm
              subst hz1
              refine lv_iconst (v := -1) hx hb dX11_countGoes_51 (by decide) ?_
              obtain ⟨rfl, rfl⟩ := Prod.mk.inj (Option.some.inj h)
              exact W.iret hx hb hr (R_end hB) hB.2.2.2.2 dX11_countGoes_52
          · replace h := itn h c_6
            replace h := ex_eq h; obtain ⟨b1, h, hz1⟩ := h
            subst hz1
            have hz1 := (itk_inr hx1).symm
            subst hz1
            refine lv_iload hx hb dX11_countGoes_40 (lv_at hl 5 rfl) ?_
            obtain ⟨rfl, rfl⟩ := Prod.mk.inj (Option.some.inj h)
            exact W.iret hx hb hr (R_end hB) hB.2.2.2.2 dX11_countGoes_42
  suffices hmain : ∀ (H : Heap) (locs : List Loc) (ls : Array Slot), tB g P σ A s.heap H locs → lv_has ls 10 [(0, .ref (gL g 0)), (1, .ref (P j1)), (2, .long a2)] → WQ p l e { frames := 3, cells := 0, slots := 0, locals := 85 } s m args below meth c g P A (some (.int r)) τ H locs (F0 m 0 ls []) from hmain _ _ ls0 hB0 hl0
  intro H locs ls hB hl
  unfold f_X11_countGoes at h
  refine lv_lload_n hx hb dX11_countGoes_0 rfl (lv_at hl 2 rfl) ?_
  refine lv_lstore (lv' := [(4, .long a2), (0, .ref (gL g 0)), (1, .ref (P j1)), (2, .long a2)]) hx hb dX11_countGoes_1 hl (by decide) rfl (fun ls hl => ?_)
  refine lv_ldc2 (v := -1) hx hb hown (ht _ tw670) dX11_countGoes_3 ?_
  refine lv_lstore (lv' := [(6, .long (-1 : Int64)), (4, .long a2), (0, .ref (gL g 0)), (1, .ref (P j1)), (2, .long a2)]) hx hb dX11_countGoes_6 hl (by decide) rfl (fun ls hl => ?_)
  refine lv_iconst (v := 1) hx hb dX11_countGoes_8 (by decide) ?_
  refine lv_istore (lv' := [(8, .int (1 : Int32)), (6, .long (-1 : Int64)), (4, .long a2), (0, .ref (gL g 0)), (1, .ref (P j1)), (2, .long a2)]) hx hb dX11_countGoes_9 hl (by decide) rfl (fun ls hl => ?_)
  refine lv_iconst (v := 0) hx hb dX11_countGoes_11 (by decide) ?_
  refine lv_istore (lv' := [(9, .int (0 : Int32)), (8, .int (1 : Int32)), (6, .long (-1 : Int64)), (4, .long a2), (0, .ref (gL g 0)), (1, .ref (P j1)), (2, .long a2)]) hx hb dX11_countGoes_12 hl (by decide) rfl (fun ls hl => ?_)
  exact hL_14 j1 fuel a2 (-1 : Int64) (1 : Int32) (0 : Int32) σ H locs ls h hB (lv_sub hl [4, 5, 3, 2, 1, 0] rfl)
def f_X11_goes (a1 : Int32) (a2 : Int64) (σ : Hp) : Option (Int32 × Hp) := b2 (f_X7_lawAt 1 a1 σ) (fun r_1 s_2 => cs r_1 (b2 (f_X11_refuse (-1 : Int32) s_2) (fun r_5 s_6 => some ((r_5 - (10 : Int32)), s_6))) (fun y_4 => b2 (f_X11_isNumber a2 s_2) (fun r_8 s_9 => if r_8 = 0 then b2 (f_X11_refuse (-6 : Int32) s_9) (fun r_15 s_16 => some ((r_15 - (10 : Int32)), s_16)) else b2 (f_X11_countGoes y_4 a2 s_9) (fun r_12 s_13 => some (r_12, s_13)))))
set_option maxHeartbeats 4000000 in
set_option maxRecDepth 100000 in
theorem c_X11_goes (l : Launch) (g : tG) (P : Nat → Nat) (σ : Hp) (a1 : Int32) (a2 : Int64) (sz : Nat) {r : Int32} {τ : Hp} (h : f_X11_goes a1 a2 σ = some (r, τ)) : Met l yX11_goes (Cond.code yX11_goes cX11_goes 5 (some .int) :: tblG) ({ frames := 4, cells := 0, slots := 0, locals := 114 }) (va_Pc [.ref (gL g 0), .int a1, .long a2] (tPre g P σ sz)) (tQ (some (.int r)) (tPost g P τ (va_A (wC g P σ) sz)) (va_A (wC g P σ) sz)) 0 0 (va_A (wC g P σ) sz) := by
  refine T_start (B := fun A => tPost g P τ A) (by decide) (Nat.le_of_ble_eq_true rfl) ?_
  intro p e s m args below meth c ls0 A hx hb hml hr hown hlocks ht hnm hK hZ hA hB0 hl0
  suffices hmain : ∀ (H : Heap) (locs : List Loc) (ls : Array Slot), tB g P σ A s.heap H locs → lv_has ls 5 [(0, .ref (gL g 0)), (1, .int a1), (2, .long a2)] → WQ p l e { frames := 4, cells := 0, slots := 0, locals := 114 } s m args below meth c g P A (some (.int r)) τ H locs (F0 m 0 ls []) from hmain _ _ ls0 hB0 hl0
  intro H locs ls hB hl
  unfold f_X11_goes at h
  refine lv_aload_n hx hb dX11_goes_0 rfl (lv_at hl 0 rfl) ?_
  refine R_get (v := .ref (gL g 1)) hx hb ht ui_X11 hown hK hB (by decide) (cell_0 rfl) rfl 0 (by decide) (ht _ tw130) (fun _ h9 => h9) rfl dX11_goes_1 ?_
  refine lv_iload_n hx hb dX11_goes_4 rfl (lv_at hl 1 rfl) ?_
  replace h := b2_eq h; obtain ⟨r_1, s_2, hc_3, h⟩ := h
  refine R_call (rest := []) [va_rf (Option.map P r_1)] (R_runV (n := 1) (As := [.int a1]) ⟨hx, hb, hml, hown, ht⟩ (fun _ h9 => h9) hK hZ hA hB (c_X7_lawAt l g P σ 1 a1 rfl H.size hc_3) (R_recv hK hB (by decide) (cell_1 rfl) rfl) tw228 tw225 tw226 tw227 tw2 ⟨by decide, by decide, by decide⟩ rfl rfl ⟨Nat.le_of_ble_eq_true rfl, Nat.le_of_ble_eq_true rfl⟩ rfl hl.1 rfl (Nat.le_of_ble_eq_true rfl) dX11_goes_5 ⟨Nat.zero_le _, Nat.zero_le _⟩) hB hA rfl (fun H locs hB => ?_)
  refine lv_astoreR (lv' := [(4, va_rf (Option.map P r_1)), (0, .ref (gL g 0)), (1, .int a1), (2, .long a2)]) hx hb dX11_goes_8 hl (by decide) rfl (fun ls hl => ?_)
  refine lv_aloadR hx hb dX11_goes_10 (lv_at hl 0 rfl) ?_
  rcases r_1 with _ | y_4
  · replace h := cs_n h
    have hl : lv_has ls 5 [(4, .null), (0, .ref (gL g 0)), (1, .int a1), (2, .long a2)] := hl
    refine lv_ifnonnullN hx hb dX11_goes_12 ?_
    refine lv_aload_n hx hb dX11_goes_15 rfl (lv_at hl 1 rfl) ?_
    refine lv_iconst (v := -1) hx hb dX11_goes_16 (by decide) ?_
    replace h := b2_eq h; obtain ⟨r_5, s_6, hc_7, h⟩ := h
    refine R_call (rest := []) [.int r_5] (R_runV (n := 1) (As := [.int (-1 : Int32)]) ⟨hx, hb, hml, hown, ht⟩ (fun _ h9 => h9) hK hZ hA hB (c_X11_refuse l g P s_2 (-1 : Int32) H.size hc_7) (R_recv hK hB (by decide) (cell_0 rfl) rfl) tw178 tw175 tw177 pw1 tw1 ⟨by decide, by decide, by decide⟩ rfl rfl ⟨Nat.le_of_ble_eq_true rfl, Nat.le_of_ble_eq_true rfl⟩ rfl hl.1 rfl (Nat.le_of_ble_eq_true rfl) dX11_goes_17 ⟨Nat.zero_le _, Nat.zero_le _⟩) hB hA rfl (fun H locs hB => ?_)
    refine lv_bipush (v := 10) hx hb dX11_goes_20 (by decide) ?_
    refine lv_isub hx hb dX11_goes_22 ?_
    obtain ⟨rfl, rfl⟩ := Prod.mk.inj (Option.some.inj h)
    exact W.iret hx hb hr (R_end hB) hB.2.2.2.2 dX11_goes_23
  · replace h := cs_s h
    have hl : lv_has ls 5 [(4, .ref (P y_4)), (0, .ref (gL g 0)), (1, .int a1), (2, .long a2)] := hl
    refine lv_ifnonnull (tgt := 24) hx hb dX11_goes_12 (by decide) ?_
    refine lv_lload_n hx hb dX11_goes_24 rfl (lv_at hl 3 rfl) ?_
    replace h := b2_eq h; obtain ⟨r_8, s_9, hc_10, h⟩ := h
    refine R_call (rest := []) [.int r_8] (R_runS (n := 1) (As := [.long a2]) ⟨hx, hb, hml, hown, ht⟩ (fun _ h9 => h9) hK hZ hA hB (c_X11_isNumber l g P s_2 a2 H.size hc_10) tw622 tw620 tw621 tw1 ⟨by decide, by decide, by decide⟩ rfl rfl ⟨Nat.le_of_ble_eq_true rfl, Nat.le_of_ble_eq_true rfl⟩ rfl hl.1 rfl (Nat.le_of_ble_eq_true rfl) dX11_goes_25 ⟨Nat.zero_le _, Nat.zero_le _⟩) hB hA rfl (fun H locs hB => ?_)
    refine lv_if_ne (tgt := 41) hx hb dX11_goes_28 (by decide) (fun c_11 => ?_) (fun c_11 => ?_)
    · replace h := itn h c_11
      refine lv_aload_n hx hb dX11_goes_41 rfl (lv_at hl 1 rfl) ?_
      refine lv_aload hx hb dX11_goes_42 (lv_at hl 0 rfl) ?_
      refine lv_lload_n hx hb dX11_goes_44 rfl (lv_at hl 3 rfl) ?_
      replace h := b2_eq h; obtain ⟨r_12, s_13, hc_14, h⟩ := h
      refine R_call (rest := []) [.int r_12] (R_runV (n := 2) (As := [.ref (P y_4), .long a2]) ⟨hx, hb, hml, hown, ht⟩ (fun _ h9 => h9) hK hZ hA hB (c_X11_countGoes l g P s_9 y_4 a2 H.size hc_14) (R_recv hK hB (by decide) (cell_0 rfl) rfl) tw686 tw683 tw685 pw16 tw1 ⟨by decide, by decide, by decide⟩ rfl rfl ⟨Nat.le_of_ble_eq_true rfl, Nat.le_of_ble_eq_true rfl⟩ rfl hl.1 rfl (Nat.le_of_ble_eq_true rfl) dX11_goes_45 ⟨Nat.zero_le _, Nat.zero_le _⟩) hB hA rfl (fun H locs hB => ?_)
      obtain ⟨rfl, rfl⟩ := Prod.mk.inj (Option.some.inj h)
      exact W.iret hx hb hr (R_end hB) hB.2.2.2.2 dX11_goes_48
    · replace h := itp h c_11
      refine lv_aload_n hx hb dX11_goes_31 rfl (lv_at hl 1 rfl) ?_
      refine lv_bipush (v := -6) hx hb dX11_goes_32 (by decide) ?_
      replace h := b2_eq h; obtain ⟨r_15, s_16, hc_17, h⟩ := h
      refine R_call (rest := []) [.int r_15] (R_runV (n := 1) (As := [.int (-6 : Int32)]) ⟨hx, hb, hml, hown, ht⟩ (fun _ h9 => h9) hK hZ hA hB (c_X11_refuse l g P s_9 (-6 : Int32) H.size hc_17) (R_recv hK hB (by decide) (cell_0 rfl) rfl) tw178 tw175 tw177 pw1 tw1 ⟨by decide, by decide, by decide⟩ rfl rfl ⟨Nat.le_of_ble_eq_true rfl, Nat.le_of_ble_eq_true rfl⟩ rfl hl.1 rfl (Nat.le_of_ble_eq_true rfl) dX11_goes_34 ⟨Nat.zero_le _, Nat.zero_le _⟩) hB hA rfl (fun H locs hB => ?_)
      refine lv_bipush (v := 10) hx hb dX11_goes_37 (by decide) ?_
      refine lv_isub hx hb dX11_goes_39 ?_
      obtain ⟨rfl, rfl⟩ := Prod.mk.inj (Option.some.inj h)
      exact W.iret hx hb hr (R_end hB) hB.2.2.2.2 dX11_goes_40
def f_X11_comes (a1 : Int32) (a2 : Int64) (σ : Hp) : Option (Int64 × Hp) := b2 (f_X7_lawAt 1 a1 σ) (fun r_1 s_2 => cs r_1 (b2 (f_X11_refuse (-1 : Int32) s_2) (fun r_5 s_6 => some (r_5.toInt64, s_6))) (fun y_4 => b2 (f_X11_isNumber a2 s_2) (fun r_8 s_9 => if r_8 = 0 then b2 (f_X11_refuse (-6 : Int32) s_9) (fun r_22 s_23 => some (r_22.toInt64, s_23)) else b2 (f_X11_countGoes y_4 a2 s_9) (fun r_12 s_13 => if r_12 = (-1 : Int32) then b2 (f_X11_refuse (-5 : Int32) s_13) (fun r_19 s_20 => some (r_19.toInt64, s_20)) else b2 (f_X11_behind y_4 a2 r_12 s_13) (fun r_16 s_17 => some (r_16, s_17))))))
set_option maxHeartbeats 4000000 in
set_option maxRecDepth 100000 in
theorem c_X11_comes (l : Launch) (g : tG) (P : Nat → Nat) (σ : Hp) (a1 : Int32) (a2 : Int64) (sz : Nat) {r : Int64} {τ : Hp} (h : f_X11_comes a1 a2 σ = some (r, τ)) : Met l yX11_comes (Cond.code yX11_comes cX11_comes 6 (some .long) :: tblG) ({ frames := 4, cells := 0, slots := 0, locals := 114 }) (va_Pc [.ref (gL g 0), .int a1, .long a2] (tPre g P σ sz)) (tQ (some (.long r)) (tPost g P τ (va_A (wC g P σ) sz)) (va_A (wC g P σ) sz)) 0 0 (va_A (wC g P σ) sz) := by
  refine T_start (B := fun A => tPost g P τ A) (by decide) (Nat.le_of_ble_eq_true rfl) ?_
  intro p e s m args below meth c ls0 A hx hb hml hr hown hlocks ht hnm hK hZ hA hB0 hl0
  suffices hmain : ∀ (H : Heap) (locs : List Loc) (ls : Array Slot), tB g P σ A s.heap H locs → lv_has ls 6 [(0, .ref (gL g 0)), (1, .int a1), (2, .long a2)] → WQ p l e { frames := 4, cells := 0, slots := 0, locals := 114 } s m args below meth c g P A (some (.long r)) τ H locs (F0 m 0 ls []) from hmain _ _ ls0 hB0 hl0
  intro H locs ls hB hl
  unfold f_X11_comes at h
  refine lv_aload_n hx hb dX11_comes_0 rfl (lv_at hl 0 rfl) ?_
  refine R_get (v := .ref (gL g 1)) hx hb ht ui_X11 hown hK hB (by decide) (cell_0 rfl) rfl 0 (by decide) (ht _ tw130) (fun _ h9 => h9) rfl dX11_comes_1 ?_
  refine lv_iload_n hx hb dX11_comes_4 rfl (lv_at hl 1 rfl) ?_
  replace h := b2_eq h; obtain ⟨r_1, s_2, hc_3, h⟩ := h
  refine R_call (rest := []) [va_rf (Option.map P r_1)] (R_runV (n := 1) (As := [.int a1]) ⟨hx, hb, hml, hown, ht⟩ (fun _ h9 => h9) hK hZ hA hB (c_X7_lawAt l g P σ 1 a1 rfl H.size hc_3) (R_recv hK hB (by decide) (cell_1 rfl) rfl) tw228 tw225 tw226 tw227 tw2 ⟨by decide, by decide, by decide⟩ rfl rfl ⟨Nat.le_of_ble_eq_true rfl, Nat.le_of_ble_eq_true rfl⟩ rfl hl.1 rfl (Nat.le_of_ble_eq_true rfl) dX11_comes_5 ⟨Nat.zero_le _, Nat.zero_le _⟩) hB hA rfl (fun H locs hB => ?_)
  refine lv_astoreR (lv' := [(4, va_rf (Option.map P r_1)), (0, .ref (gL g 0)), (1, .int a1), (2, .long a2)]) hx hb dX11_comes_8 hl (by decide) rfl (fun ls hl => ?_)
  refine lv_aloadR hx hb dX11_comes_10 (lv_at hl 0 rfl) ?_
  rcases r_1 with _ | y_4
  · replace h := cs_n h
    have hl : lv_has ls 6 [(4, .null), (0, .ref (gL g 0)), (1, .int a1), (2, .long a2)] := hl
    refine lv_ifnonnullN hx hb dX11_comes_12 ?_
    refine lv_aload_n hx hb dX11_comes_15 rfl (lv_at hl 1 rfl) ?_
    refine lv_iconst (v := -1) hx hb dX11_comes_16 (by decide) ?_
    replace h := b2_eq h; obtain ⟨r_5, s_6, hc_7, h⟩ := h
    refine R_call (rest := []) [.int r_5] (R_runV (n := 1) (As := [.int (-1 : Int32)]) ⟨hx, hb, hml, hown, ht⟩ (fun _ h9 => h9) hK hZ hA hB (c_X11_refuse l g P s_2 (-1 : Int32) H.size hc_7) (R_recv hK hB (by decide) (cell_0 rfl) rfl) tw178 tw175 tw177 pw1 tw1 ⟨by decide, by decide, by decide⟩ rfl rfl ⟨Nat.le_of_ble_eq_true rfl, Nat.le_of_ble_eq_true rfl⟩ rfl hl.1 rfl (Nat.le_of_ble_eq_true rfl) dX11_comes_17 ⟨Nat.zero_le _, Nat.zero_le _⟩) hB hA rfl (fun H locs hB => ?_)
    refine lv_i2l (v := r_5.toInt64) hx hb dX11_comes_20 rfl ?_
    obtain ⟨rfl, rfl⟩ := Prod.mk.inj (Option.some.inj h)
    exact W.lret hx hb hr (R_end hB) hB.2.2.2.2 dX11_comes_21
  · replace h := cs_s h
    have hl : lv_has ls 6 [(4, .ref (P y_4)), (0, .ref (gL g 0)), (1, .int a1), (2, .long a2)] := hl
    refine lv_ifnonnull (tgt := 22) hx hb dX11_comes_12 (by decide) ?_
    refine lv_lload_n hx hb dX11_comes_22 rfl (lv_at hl 3 rfl) ?_
    replace h := b2_eq h; obtain ⟨r_8, s_9, hc_10, h⟩ := h
    refine R_call (rest := []) [.int r_8] (R_runS (n := 1) (As := [.long a2]) ⟨hx, hb, hml, hown, ht⟩ (fun _ h9 => h9) hK hZ hA hB (c_X11_isNumber l g P s_2 a2 H.size hc_10) tw622 tw620 tw621 tw1 ⟨by decide, by decide, by decide⟩ rfl rfl ⟨Nat.le_of_ble_eq_true rfl, Nat.le_of_ble_eq_true rfl⟩ rfl hl.1 rfl (Nat.le_of_ble_eq_true rfl) dX11_comes_23 ⟨Nat.zero_le _, Nat.zero_le _⟩) hB hA rfl (fun H locs hB => ?_)
    refine lv_if_ne (tgt := 37) hx hb dX11_comes_26 (by decide) (fun c_11 => ?_) (fun c_11 => ?_)
    · replace h := itn h c_11
      refine lv_aload_n hx hb dX11_comes_37 rfl (lv_at hl 1 rfl) ?_
      refine lv_aload hx hb dX11_comes_38 (lv_at hl 0 rfl) ?_
      refine lv_lload_n hx hb dX11_comes_40 rfl (lv_at hl 3 rfl) ?_
      replace h := b2_eq h; obtain ⟨r_12, s_13, hc_14, h⟩ := h
      refine R_call (rest := []) [.int r_12] (R_runV (n := 2) (As := [.ref (P y_4), .long a2]) ⟨hx, hb, hml, hown, ht⟩ (fun _ h9 => h9) hK hZ hA hB (c_X11_countGoes l g P s_9 y_4 a2 H.size hc_14) (R_recv hK hB (by decide) (cell_0 rfl) rfl) tw686 tw683 tw685 pw16 tw1 ⟨by decide, by decide, by decide⟩ rfl rfl ⟨Nat.le_of_ble_eq_true rfl, Nat.le_of_ble_eq_true rfl⟩ rfl hl.1 rfl (Nat.le_of_ble_eq_true rfl) dX11_comes_41 ⟨Nat.zero_le _, Nat.zero_le _⟩) hB hA rfl (fun H locs hB => ?_)
      refine lv_istore (lv' := [(5, .int r_12), (4, .ref (P y_4)), (0, .ref (gL g 0)), (1, .int a1), (2, .long a2)]) hx hb dX11_comes_44 hl (by decide) rfl (fun ls hl => ?_)
      refine lv_iload hx hb dX11_comes_46 (lv_at hl 0 rfl) ?_
      refine lv_iconst (v := -1) hx hb dX11_comes_48 (by decide) ?_
      refine lv_icmp_ne (tgt := 62) hx hb dX11_comes_49 (by decide) (fun c_15 => ?_) (fun c_15 => ?_)
      · replace h := itn h c_15
        refine lv_aload_n hx hb dX11_comes_62 rfl (lv_at hl 2 rfl) ?_
        refine lv_aload hx hb dX11_comes_63 (lv_at hl 1 rfl) ?_
        refine lv_lload_n hx hb dX11_comes_65 rfl (lv_at hl 4 rfl) ?_
        refine lv_iload hx hb dX11_comes_66 (lv_at hl 0 rfl) ?_
        replace h := b2_eq h; obtain ⟨r_16, s_17, hc_18, h⟩ := h
        refine R_call (rest := []) [.long r_16] (R_runV (n := 3) (As := [.ref (P y_4), .long a2, .int r_12]) ⟨hx, hb, hml, hown, ht⟩ (fun _ h9 => h9) hK hZ hA hB (c_X11_behind l g P s_13 y_4 a2 r_12 H.size hc_18) (R_recv hK hB (by decide) (cell_0 rfl) rfl) tw678 tw675 tw677 pw15 tw1 ⟨by decide, by decide, by decide⟩ rfl rfl ⟨Nat.le_of_ble_eq_true rfl, Nat.le_of_ble_eq_true rfl⟩ rfl hl.1 rfl (Nat.le_of_ble_eq_true rfl) dX11_comes_68 ⟨Nat.zero_le _, Nat.zero_le _⟩) hB hA rfl (fun H locs hB => ?_)
        obtain ⟨rfl, rfl⟩ := Prod.mk.inj (Option.some.inj h)
        exact W.lret hx hb hr (R_end hB) hB.2.2.2.2 dX11_comes_71
      · replace h := itp h c_15
        refine lv_aload_n hx hb dX11_comes_52 rfl (lv_at hl 2 rfl) ?_
        refine lv_bipush (v := -5) hx hb dX11_comes_53 (by decide) ?_
        replace h := b2_eq h; obtain ⟨r_19, s_20, hc_21, h⟩ := h
        refine R_call (rest := []) [.int r_19] (R_runV (n := 1) (As := [.int (-5 : Int32)]) ⟨hx, hb, hml, hown, ht⟩ (fun _ h9 => h9) hK hZ hA hB (c_X11_refuse l g P s_13 (-5 : Int32) H.size hc_21) (R_recv hK hB (by decide) (cell_0 rfl) rfl) tw178 tw175 tw177 pw1 tw1 ⟨by decide, by decide, by decide⟩ rfl rfl ⟨Nat.le_of_ble_eq_true rfl, Nat.le_of_ble_eq_true rfl⟩ rfl hl.1 rfl (Nat.le_of_ble_eq_true rfl) dX11_comes_55 ⟨Nat.zero_le _, Nat.zero_le _⟩) hB hA rfl (fun H locs hB => ?_)
        refine lv_i2l (v := r_19.toInt64) hx hb dX11_comes_58 rfl ?_
        refine lv_goto (tgt := 71) hx hb dX11_comes_59 (by decide) ?_
        obtain ⟨rfl, rfl⟩ := Prod.mk.inj (Option.some.inj h)
        exact W.lret hx hb hr (R_end hB) hB.2.2.2.2 dX11_comes_71
    · replace h := itp h c_11
      refine lv_aload_n hx hb dX11_comes_29 rfl (lv_at hl 1 rfl) ?_
      refine lv_bipush (v := -6) hx hb dX11_comes_30 (by decide) ?_
      replace h := b2_eq h; obtain ⟨r_22, s_23, hc_24, h⟩ := h
      refine R_call (rest := []) [.int r_22] (R_runV (n := 1) (As := [.int (-6 : Int32)]) ⟨hx, hb, hml, hown, ht⟩ (fun _ h9 => h9) hK hZ hA hB (c_X11_refuse l g P s_9 (-6 : Int32) H.size hc_24) (R_recv hK hB (by decide) (cell_0 rfl) rfl) tw178 tw175 tw177 pw1 tw1 ⟨by decide, by decide, by decide⟩ rfl rfl ⟨Nat.le_of_ble_eq_true rfl, Nat.le_of_ble_eq_true rfl⟩ rfl hl.1 rfl (Nat.le_of_ble_eq_true rfl) dX11_comes_32 ⟨Nat.zero_le _, Nat.zero_le _⟩) hB hA rfl (fun H locs hB => ?_)
      refine lv_i2l (v := r_22.toInt64) hx hb dX11_comes_35 rfl ?_
      obtain ⟨rfl, rfl⟩ := Prod.mk.inj (Option.some.inj h)
      exact W.lret hx hb hr (R_end hB) hB.2.2.2.2 dX11_comes_36
def f_X11_keepRound_t67 (x2 : Int32) (x3 : Int32) (x4 : Int64) (x6 : Int32) (σ1 : Hp) : Option ((Int64 × Int32 × Hp) ⊕ (Int32 × Hp)) := if (x3 + x2) ≤ x6 then ex (ck (inb (0 : Int32) 3 = true) (ck (inb (1 : Int32) 3 = true) (ck (inb (2 : Int32) 3 = true) (some ((1 : Int32), (sJ (sJ (sJ σ1 34 (0 : Int32).toNatClampNeg x3.toInt64) 34 (1 : Int32).toNatClampNeg x2.toInt64) 34 (2 : Int32).toNatClampNeg x4)))))) else ck (inb x6 1001 = true) (some (.inl ((if (hJ σ1 33 x6.toNatClampNeg) < x4 then (hJ σ1 33 x6.toNatClampNeg) else x4), (x6 + 1), σ1)))
def f_X11_keepRound_s67 (x2 : Int32) (x3 : Int32) (v : (Int64 × Int32 × Hp)) : Option ((Int64 × Int32 × Hp) ⊕ (Int32 × Hp)) := f_X11_keepRound_t67 x2 x3 v.1 v.2.1 v.2.2
def f_X11_keepRound_b54 (x2 : Int32) (x3 : Int32) (σ1 : Hp) : Option (Int32 × Hp) := ck (inb x3 1001 = true) (iter (f_X11_keepRound_s67 x2 x3) fuel ((hJ σ1 33 x3.toNatClampNeg), (x3 + (1 : Int32)), σ1))
def f_X11_keepRound_t23 (x1 : Int32) (x2 : Int32) (x3 : Int32) (σ1 : Hp) : Option ((Int32 × Hp) ⊕ (Int32 × Hp)) := if (x1 - x2) ≤ x3 then ex (f_X11_keepRound_b54 x2 x3 σ1) else ck (inb x3 1001 = true) (ck (inb (x3 + x2) 1001 = true) (if (lg_cmp (hJ σ1 33 x3.toNatClampNeg) (hJ σ1 33 (x3 + x2).toNatClampNeg)) = 0 then ex (f_X11_keepRound_b54 x2 x3 σ1) else some (.inl ((x3 + 1), σ1))))
def f_X11_keepRound_s23 (x1 : Int32) (x2 : Int32) (v : (Int32 × Hp)) : Option ((Int32 × Hp) ⊕ (Int32 × Hp)) := f_X11_keepRound_t23 x1 x2 v.1 v.2
def f_X11_keepRound (a1 : Int32) (a2 : Int32) (σ : Hp) : Option (Int32 × Hp) := if a2 < (1 : Int32) then some ((0 : Int32), σ) else if a1 < a2 then some ((0 : Int32), σ) else if a1 < (1001 : Int32) then iter (f_X11_keepRound_s23 a1 a2) fuel ((0 : Int32), σ) else some ((0 : Int32), σ)
set_option maxHeartbeats 4000000 in
set_option maxRecDepth 100000 in
theorem c_X11_keepRound (l : Launch) (g : tG) (P : Nat → Nat) (σ : Hp) (a1 : Int32) (a2 : Int32) (sz : Nat) {r : Int32} {τ : Hp} (h : f_X11_keepRound a1 a2 σ = some (r, τ)) : Met l yX11_keepRound (Cond.code yX11_keepRound cX11_keepRound 7 (some .boolean) :: tblG) ({ frames := 1, cells := 0, slots := 0, locals := 23 }) (va_Pc [.ref (gL g 0), .int a1, .int a2] (tPre g P σ sz)) (tQ (some (.int r)) (tPost g P τ (va_A (wC g P σ) sz)) (va_A (wC g P σ) sz)) 0 0 (va_A (wC g P σ) sz) := by
  refine T_start (B := fun A => tPost g P τ A) (by decide) (Nat.le_of_ble_eq_true rfl) ?_
  intro p e s m args below meth c ls0 A hx hb hml hr hown hlocks ht hnm hK hZ hA hB0 hl0
  have hL_67 : ∀ (x2 : Int32) (x3 : Int32) (n : Nat) (x4 : Int64) (x6 : Int32) (σ1 : Hp) (H : Heap) (locs : List Loc) (ls : Array Slot), iter (f_X11_keepRound_s67 x2 x3) n (x4, x6, σ1) = some (r, τ) → tB g P σ1 A s.heap H locs → lv_has ls 7 [(0, .ref (gL g 0)), (2, .int x2), (3, .int x3), (4, .long x4), (6, .int x6)] → WQ p l e { frames := 1, cells := 0, slots := 0, locals := 23 } s m args below meth c g P A (some (.int r)) τ H locs (F0 m 67 ls []) := by
    intro x2 x3 n
    induction n with
    | zero =>
      intro x4 x6 σ1 H locs ls h hB hl
      exact (iter_0 h).elim
    | succ n ih1 =>
      intro x4 x6 σ1 H locs ls h hB hl
      replace h := iter_eq h; obtain ⟨z1, hh1, hx1⟩ := h
      have h : f_X11_keepRound_t67 x2 x3 x4 x6 σ1 = some z1 := hh1
      clear hh1
      unfold f_X11_keepRound_t67 at h
      refine lv_iload hx hb dX11_keepRound_67 (lv_at hl 4 rfl) ?_
      refine lv_iload_n hx hb dX11_keepRound_69 rfl (lv_at hl 2 rfl) ?_
      refine lv_iload_n hx hb dX11_keepRound_70 rfl (lv_at hl 1 rfl) ?_
      refine lv_iadd hx hb dX11_keepRound_71 ?_
      refine lv_icmp_ge (tgt := 95) hx hb dX11_keepRound_72 (by decide) (fun c_6 => ?_) (fun c_6 => ?_)
      · replace h := itp h c_6
        replace h := ex_eq h; obtain ⟨b1, h, hz1⟩ := h
        subst hz1
        have hz1 := (itk_inr hx1).symm
        subst hz1
        refine lv_aload_n hx hb dX11_keepRound_95 rfl (lv_at hl 0 rfl) ?_
        refine R_get (v := .ref (gL g 34)) hx hb ht ui_X11 hown hK hB (by decide) (cell_0 rfl) rfl 9 (by decide) (ht _ tw139) (fun _ h9 => h9) rfl dX11_keepRound_96 ?_
        refine lv_iconst (v := 0) hx hb dX11_keepRound_99 (by decide) ?_
        refine lv_iload_n hx hb dX11_keepRound_100 rfl (lv_at hl 2 rfl) ?_
        refine lv_i2l (v := x3.toInt64) hx hb dX11_keepRound_101 rfl ?_
        replace h := ck_eq h; obtain ⟨q_7, h⟩ := h
        refine R_last hx hb hK hB rfl (inb_eq q_7) dX11_keepRound_102 (fun H locs hB => ?_)
        refine lv_aload_n hx hb dX11_keepRound_103 rfl (lv_at hl 0 rfl) ?_
        refine R_get (v := .ref (gL g 34)) hx hb ht ui_X11 hown hK hB (by decide) (cell_0 rfl) rfl 9 (by decide) (ht _ tw139) (fun _ h9 => h9) rfl dX11_keepRound_104 ?_
        refine lv_iconst (v := 1) hx hb dX11_keepRound_107 (by decide) ?_
        refine lv_iload_n hx hb dX11_keepRound_108 rfl (lv_at hl 1 rfl) ?_
        refine lv_i2l (v := x2.toInt64) hx hb dX11_keepRound_109 rfl ?_
        replace h := ck_eq h; obtain ⟨q_8, h⟩ := h
        refine R_last hx hb hK hB rfl (inb_eq q_8) dX11_keepRound_110 (fun H locs hB => ?_)
        refine lv_aload_n hx hb dX11_keepRound_111 rfl (lv_at hl 0 rfl) ?_
        refine R_get (v := .ref (gL g 34)) hx hb ht ui_X11 hown hK hB (by decide) (cell_0 rfl) rfl 9 (by decide) (ht _ tw139) (fun _ h9 => h9) rfl dX11_keepRound_112 ?_
        refine lv_iconst (v := 2) hx hb dX11_keepRound_115 (by decide) ?_
        refine lv_lload hx hb dX11_keepRound_116 (lv_at hl 3 rfl) ?_
        replace h := ck_eq h; obtain ⟨q_9, h⟩ := h
        refine R_last hx hb hK hB rfl (inb_eq q_9) dX11_keepRound_118 (fun H locs hB => ?_)
        refine lv_iconst (v := 1) hx hb dX11_keepRound_119 (by decide) ?_
        obtain ⟨rfl, rfl⟩ := Prod.mk.inj (Option.some.inj h)
        exact W.zret hx hb hr rfl (R_end hB) hB.2.2.2.2 dX11_keepRound_120
      · replace h := itn h c_6
        refine lv_lload hx hb dX11_keepRound_75 (lv_at hl 3 rfl) ?_
        refine lv_aload_n hx hb dX11_keepRound_77 rfl (lv_at hl 0 rfl) ?_
        refine R_get (v := .ref (gL g 33)) hx hb ht ui_X11 hown hK hB (by decide) (cell_0 rfl) rfl 8 (by decide) (ht _ tw138) (fun _ h9 => h9) rfl dX11_keepRound_78 ?_
        refine lv_iload hx hb dX11_keepRound_81 (lv_at hl 4 rfl) ?_
        replace h := ck_eq h; obtain ⟨q_10, h⟩ := h
        refine R_lald hx hb hK hB rfl (inb_eq q_10) dX11_keepRound_83 ?_
        refine va_mmin_long hx hb (by rw [hml]; exact hl.1.symm) hown (ht _ tw703) (ht _ tw704) (ht _ tw9) (ht _ tw705) (Nat.le_of_ble_eq_true rfl) (Nat.le_of_ble_eq_true rfl) (Nat.zero_le _) (Nat.zero_le _) dX11_keepRound_84 ?_
        refine lv_lstore (lv' := [(4, .long (if (hJ σ1 33 x6.toNatClampNeg) < x4 then (hJ σ1 33 x6.toNatClampNeg) else x4)), (0, .ref (gL g 0)), (2, .int x2), (3, .int x3), (6, .int x6)]) hx hb dX11_keepRound_87 hl (by decide) rfl (fun ls hl => ?_)
        refine lv_iinc (v := x6 + 1) (lv' := [(6, .int (x6 + 1)), (4, .long (if (hJ σ1 33 x6.toNatClampNeg) < x4 then (hJ σ1 33 x6.toNatClampNeg) else x4)), (0, .ref (gL g 0)), (2, .int x2), (3, .int x3)]) hx hb dX11_keepRound_89 hl (k := 4) rfl rfl (by decide) rfl (fun ls hl => ?_)
        refine lv_goto (tgt := 67) hx hb dX11_keepRound_92 (by decide) ?_
        obtain rfl := Option.some.inj h
        exact ih1 (if (hJ σ1 33 x6.toNatClampNeg) < x4 then (hJ σ1 33 x6.toNatClampNeg) else x4) (x6 + 1) σ1 H locs ls hx1 hB (lv_sub hl [2, 3, 4, 1, 0] rfl)
  have hb_54 : ∀ (x2 : Int32) (x3 : Int32) (σ1 : Hp) (H : Heap) (locs : List Loc) (ls : Array Slot), f_X11_keepRound_b54 x2 x3 σ1 = some (r, τ) → tB g P σ1 A s.heap H locs → lv_has ls 7 [(0, .ref (gL g 0)), (2, .int x2), (3, .int x3)] → WQ p l e { frames := 1, cells := 0, slots := 0, locals := 23 } s m args below meth c g P A (some (.int r)) τ H locs (F0 m 54 ls []) := by
    intro x2 x3 σ1 H locs ls h hB hl
    unfold f_X11_keepRound_b54 at h
    refine lv_aload_n hx hb dX11_keepRound_54 rfl (lv_at hl 0 rfl) ?_
    refine R_get (v := .ref (gL g 33)) hx hb ht ui_X11 hown hK hB (by decide) (cell_0 rfl) rfl 8 (by decide) (ht _ tw138) (fun _ h9 => h9) rfl dX11_keepRound_55 ?_
    refine lv_iload_n hx hb dX11_keepRound_58 rfl (lv_at hl 2 rfl) ?_
    replace h := ck_eq h; obtain ⟨q_5, h⟩ := h
    refine R_lald hx hb hK hB rfl (inb_eq q_5) dX11_keepRound_59 ?_
    refine lv_lstore (lv' := [(4, .long (hJ σ1 33 x3.toNatClampNeg)), (0, .ref (gL g 0)), (2, .int x2), (3, .int x3)]) hx hb dX11_keepRound_60 hl (by decide) rfl (fun ls hl => ?_)
    refine lv_iload_n hx hb dX11_keepRound_62 rfl (lv_at hl 3 rfl) ?_
    refine lv_iconst (v := 1) hx hb dX11_keepRound_63 (by decide) ?_
    refine lv_iadd hx hb dX11_keepRound_64 ?_
    refine lv_istore (lv' := [(6, .int (x3 + (1 : Int32))), (4, .long (hJ σ1 33 x3.toNatClampNeg)), (0, .ref (gL g 0)), (2, .int x2), (3, .int x3)]) hx hb dX11_keepRound_65 hl (by decide) rfl (fun ls hl => ?_)
    exact hL_67 x2 x3 fuel (hJ σ1 33 x3.toNatClampNeg) (x3 + (1 : Int32)) σ1 H locs ls h hB (lv_sub hl [2, 3, 4, 1, 0] rfl)
  have hL_23 : ∀ (x1 : Int32) (x2 : Int32) (n : Nat) (x3 : Int32) (σ1 : Hp) (H : Heap) (locs : List Loc) (ls : Array Slot), iter (f_X11_keepRound_s23 x1 x2) n (x3, σ1) = some (r, τ) → tB g P σ1 A s.heap H locs → lv_has ls 7 [(0, .ref (gL g 0)), (1, .int x1), (2, .int x2), (3, .int x3)] → WQ p l e { frames := 1, cells := 0, slots := 0, locals := 23 } s m args below meth c g P A (some (.int r)) τ H locs (F0 m 23 ls []) := by
    intro x1 x2 n
    induction n with
    | zero =>
      intro x3 σ1 H locs ls h hB hl
      exact (iter_0 h).elim
    | succ n ih1 =>
      intro x3 σ1 H locs ls h hB hl
      replace h := iter_eq h; obtain ⟨z1, hh1, hx1⟩ := h
      have h : f_X11_keepRound_t23 x1 x2 x3 σ1 = some z1 := hh1
      clear hh1
      unfold f_X11_keepRound_t23 at h
      refine lv_iload_n hx hb dX11_keepRound_23 rfl (lv_at hl 3 rfl) ?_
      refine lv_iload_n hx hb dX11_keepRound_24 rfl (lv_at hl 1 rfl) ?_
      refine lv_iload_n hx hb dX11_keepRound_25 rfl (lv_at hl 2 rfl) ?_
      refine lv_isub hx hb dX11_keepRound_26 ?_
      refine lv_icmp_ge (tgt := 54) hx hb dX11_keepRound_27 (by decide) (fun c_4 => ?_) (fun c_4 => ?_)
      · replace h := itp h c_4
        replace h := ex_eq h; obtain ⟨b1, h, hz1⟩ := h
        subst hz1
        have hz1 := (itk_inr hx1).symm
        subst hz1
        exact hb_54 x2 x3 σ1 H locs ls h hB (lv_sub hl [0, 2, 3] rfl)
      · replace h := itn h c_4
        refine lv_aload_n hx hb dX11_keepRound_30 rfl (lv_at hl 0 rfl) ?_
        refine R_get (v := .ref (gL g 33)) hx hb ht ui_X11 hown hK hB (by decide) (cell_0 rfl) rfl 8 (by decide) (ht _ tw138) (fun _ h9 => h9) rfl dX11_keepRound_31 ?_
        refine lv_iload_n hx hb dX11_keepRound_34 rfl (lv_at hl 3 rfl) ?_
        replace h := ck_eq h; obtain ⟨q_11, h⟩ := h
        refine R_lald hx hb hK hB rfl (inb_eq q_11) dX11_keepRound_35 ?_
        refine lv_aload_n hx hb dX11_keepRound_36 rfl (lv_at hl 0 rfl) ?_
        refine R_get (v := .ref (gL g 33)) hx hb ht ui_X11 hown hK hB (by decide) (cell_0 rfl) rfl 8 (by decide) (ht _ tw138) (fun _ h9 => h9) rfl dX11_keepRound_37 ?_
        refine lv_iload_n hx hb dX11_keepRound_40 rfl (lv_at hl 3 rfl) ?_
        refine lv_iload_n hx hb dX11_keepRound_41 rfl (lv_at hl 2 rfl) ?_
        refine lv_iadd hx hb dX11_keepRound_42 ?_
        replace h := ck_eq h; obtain ⟨q_12, h⟩ := h
        refine R_lald hx hb hK hB rfl (inb_eq q_12) dX11_keepRound_43 ?_
        refine W.lcmp hx hb dX11_keepRound_44 ?_
        refine lv_if_eq (tgt := 54) hx hb dX11_keepRound_45 (by decide) (fun c_13 => ?_) (fun c_13 => ?_)
        · replace h := itp h c_13
          replace h := ex_eq h; obtain ⟨b1, h, hz1⟩ := h
          subst hz1
          have hz1 := (itk_inr hx1).symm
          subst hz1
          exact hb_54 x2 x3 σ1 H locs ls h hB (lv_sub hl [0, 2, 3] rfl)
        · replace h := itn h c_13
          refine lv_iinc (v := x3 + 1) (lv' := [(3, .int (x3 + 1)), (0, .ref (gL g 0)), (1, .int x1), (2, .int x2)]) hx hb dX11_keepRound_48 hl (k := 3) rfl rfl (by decide) rfl (fun ls hl => ?_)
          refine lv_goto (tgt := 23) hx hb dX11_keepRound_51 (by decide) ?_
          obtain rfl := Option.some.inj h
          exact ih1 (x3 + 1) σ1 H locs ls hx1 hB (lv_sub hl [1, 2, 3, 0] rfl)
  suffices hmain : ∀ (H : Heap) (locs : List Loc) (ls : Array Slot), tB g P σ A s.heap H locs → lv_has ls 7 [(0, .ref (gL g 0)), (1, .int a1), (2, .int a2)] → WQ p l e { frames := 1, cells := 0, slots := 0, locals := 23 } s m args below meth c g P A (some (.int r)) τ H locs (F0 m 0 ls []) from hmain _ _ ls0 hB0 hl0
  intro H locs ls hB hl
  unfold f_X11_keepRound at h
  refine lv_iload_n hx hb dX11_keepRound_0 rfl (lv_at hl 2 rfl) ?_
  refine lv_iconst (v := 1) hx hb dX11_keepRound_1 (by decide) ?_
  refine lv_icmp_lt (tgt := 19) hx hb dX11_keepRound_2 (by decide) (fun c_1 => ?_) (fun c_1 => ?_)
  · replace h := itp h c_1
    refine lv_iconst (v := 0) hx hb dX11_keepRound_19 (by decide) ?_
    obtain ⟨rfl, rfl⟩ := Prod.mk.inj (Option.some.inj h)
    exact W.zret hx hb hr rfl (R_end hB) hB.2.2.2.2 dX11_keepRound_20
  · replace h := itn h c_1
    refine lv_iload_n hx hb dX11_keepRound_5 rfl (lv_at hl 2 rfl) ?_
    refine lv_iload_n hx hb dX11_keepRound_6 rfl (lv_at hl 1 rfl) ?_
    refine lv_icmp_gt (tgt := 19) hx hb dX11_keepRound_7 (by decide) (fun c_2 => ?_) (fun c_2 => ?_)
    · replace h := itp h c_2
      refine lv_iconst (v := 0) hx hb dX11_keepRound_19 (by decide) ?_
      obtain ⟨rfl, rfl⟩ := Prod.mk.inj (Option.some.inj h)
      exact W.zret hx hb hr rfl (R_end hB) hB.2.2.2.2 dX11_keepRound_20
    · replace h := itn h c_2
      refine lv_iload_n hx hb dX11_keepRound_10 rfl (lv_at hl 1 rfl) ?_
      refine lv_aload_n hx hb dX11_keepRound_11 rfl (lv_at hl 0 rfl) ?_
      refine R_get (v := .ref (gL g 33)) hx hb ht ui_X11 hown hK hB (by decide) (cell_0 rfl) rfl 8 (by decide) (ht _ tw138) (fun _ h9 => h9) rfl dX11_keepRound_12 ?_
      refine R_alenJ hx hb (v := (1001 : Int32)) hK hB rfl rfl dX11_keepRound_15 ?_
      refine lv_icmp_lt (tgt := 21) hx hb dX11_keepRound_16 (by decide) (fun c_3 => ?_) (fun c_3 => ?_)
      · replace h := itp h c_3
        refine lv_iconst (v := 0) hx hb dX11_keepRound_21 (by decide) ?_
        refine lv_istore_n (lv' := [(3, .int (0 : Int32)), (0, .ref (gL g 0)), (1, .int a1), (2, .int a2)]) hx hb dX11_keepRound_22 rfl hl (by decide) rfl (fun ls hl => ?_)
        exact hL_23 a1 a2 fuel (0 : Int32) σ H locs ls h hB (lv_sub hl [1, 2, 3, 0] rfl)
      · replace h := itn h c_3
        refine lv_iconst (v := 0) hx hb dX11_keepRound_19 (by decide) ?_
        obtain ⟨rfl, rfl⟩ := Prod.mk.inj (Option.some.inj h)
        exact W.zret hx hb hr rfl (R_end hB) hB.2.2.2.2 dX11_keepRound_20
def f_X11_findRound_t123 (x5 : Int32) (x6 : Int32) (σ1 : Hp) : Option ((Int32 × Hp) ⊕ (Int32 × Hp)) := if x6 < 0 then ex (some ((0 : Int32), σ1)) else ck (inb x6 1001 = true) (ck (inb x5 1001 = true) (if (lg_cmp (hJ σ1 33 x6.toNatClampNeg) (hJ σ1 33 x5.toNatClampNeg)) = 0 then ex (b2 (f_X11_keepRound x5 (x5 - x6) σ1) (fun r_7 s_8 => ck (isB r_7 = true) (some (r_7, s_8)))) else some (.inl ((x6 + (-1)), σ1))))
def f_X11_findRound_s123 (x5 : Int32) (v : (Int32 × Hp)) : Option ((Int32 × Hp) ⊕ (Int32 × Hp)) := f_X11_findRound_t123 x5 v.1 v.2
def f_X11_findRound_b102 (x1 : Nat) (x4 : Int32) (x5 : Int32) (σ1 : Hp) : Option ((Int32 × Int32 × Hp) ⊕ (Int32 × Hp)) := some (.inl (x4, (x5 + 1), σ1))
def f_X11_findRound_t13 (x1 : Nat) (x4 : Int32) (x5 : Int32) (σ1 : Hp) : Option ((Int32 × Int32 × Hp) ⊕ (Int32 × Hp)) := if (1001 : Int32) ≤ x5 then ex (iter (f_X11_findRound_s123 ((1001 : Int32) - (1 : Int32))) fuel ((((1001 : Int32) - (1 : Int32)) - (1 : Int32)), σ1)) else ck (inb (x5 - (1 : Int32)) 1001 = true) (ck (isLaw σ1 x1 = true) (b2 (v_onward x1 (hJ σ1 33 (x5 - (1 : Int32)).toNatClampNeg) 1 σ1) (fun r_13 s_14 => if (lg_cmp r_13 (-1 : Int64)) = 0 then ex (some ((0 : Int32), s_14)) else ck (inb x5 1001 = true) (ck (inb x4 1001 = true) (if (lg_cmp r_13 (hJ (sJ s_14 33 x5.toNatClampNeg r_13) 33 x4.toNatClampNeg)) = 0 then ex (b2 (f_X11_keepRound x5 (x5 - x4) (sJ s_14 33 x5.toNatClampNeg r_13)) (fun r_21 s_22 => ck (isB r_21 = true) (some (r_21, s_22)))) else if x5 = (((2 : Int32) * x4) + (1 : Int32)) then f_X11_findRound_b102 x1 x5 x5 (sJ s_14 33 x5.toNatClampNeg r_13) else f_X11_findRound_b102 x1 x4 x5 (sJ s_14 33 x5.toNatClampNeg r_13))))))
def f_X11_findRound_s13 (x1 : Nat) (v : (Int32 × Int32 × Hp)) : Option ((Int32 × Int32 × Hp) ⊕ (Int32 × Hp)) := f_X11_findRound_t13 x1 v.1 v.2.1 v.2.2
def f_X11_findRound (j1 : Nat) (a2 : Int64) (σ : Hp) : Option (Int32 × Hp) := ck (inb (0 : Int32) 1001 = true) (iter (f_X11_findRound_s13 j1) fuel ((0 : Int32), (1 : Int32), (sJ σ 33 (0 : Int32).toNatClampNeg a2)))
set_option maxHeartbeats 4000000 in
set_option maxRecDepth 100000 in
theorem c_X11_findRound (l : Launch) (g : tG) (P : Nat → Nat) (σ : Hp) (j1 : Nat) (a2 : Int64) (sz : Nat) {r : Int32} {τ : Hp} (h : f_X11_findRound j1 a2 σ = some (r, τ)) : Met l yX11_findRound (Cond.code yX11_findRound cX11_findRound 8 (some .boolean) :: tblG) ({ frames := 3, cells := 0, slots := 0, locals := 85 }) (va_Pc [.ref (gL g 0), .ref (P j1), .long a2] (tPre g P σ sz)) (tQ (some (.int r)) (tPost g P τ (va_A (wC g P σ) sz)) (va_A (wC g P σ) sz)) 0 0 (va_A (wC g P σ) sz) := by
  refine T_start (B := fun A => tPost g P τ A) (by decide) (Nat.le_of_ble_eq_true rfl) ?_
  intro p e s m args below meth c ls0 A hx hb hml hr hown hlocks ht hnm hK hZ hA hB0 hl0
  have hL_123 : ∀ (x5 : Int32) (n : Nat) (x6 : Int32) (σ1 : Hp) (H : Heap) (locs : List Loc) (ls : Array Slot), iter (f_X11_findRound_s123 x5) n (x6, σ1) = some (r, τ) → tB g P σ1 A s.heap H locs → lv_has ls 8 [(0, .ref (gL g 0)), (5, .int x5), (6, .int x6)] → WQ p l e { frames := 3, cells := 0, slots := 0, locals := 85 } s m args below meth c g P A (some (.int r)) τ H locs (F0 m 123 ls []) := by
    intro x5 n
    induction n with
    | zero =>
      intro x6 σ1 H locs ls h hB hl
      exact (iter_0 h).elim
    | succ n ih1 =>
      intro x6 σ1 H locs ls h hB hl
      replace h := iter_eq h; obtain ⟨z1, hh1, hx1⟩ := h
      have h : f_X11_findRound_t123 x5 x6 σ1 = some z1 := hh1
      clear hh1
      unfold f_X11_findRound_t123 at h
      refine lv_iload hx hb dX11_findRound_123 (lv_at hl 2 rfl) ?_
      refine lv_if_lt (tgt := 164) hx hb dX11_findRound_125 (by decide) (fun c_3 => ?_) (fun c_3 => ?_)
      · replace h := itp h c_3
        replace h := ex_eq h; obtain ⟨b1, h, hz1⟩ := h
        subst hz1
        have hz1 := (itk_inr hx1).symm
        subst hz1
        refine lv_iconst (v := 0) hx hb dX11_findRound_164 (by decide) ?_
        obtain ⟨rfl, rfl⟩ := Prod.mk.inj (Option.some.inj h)
        exact W.zret hx hb hr rfl (R_end hB) hB.2.2.2.2 dX11_findRound_165
      · replace h := itn h c_3
        refine lv_aload_n hx hb dX11_findRound_128 rfl (lv_at hl 0 rfl) ?_
        refine R_get (v := .ref (gL g 33)) hx hb ht ui_X11 hown hK hB (by decide) (cell_0 rfl) rfl 8 (by decide) (ht _ tw138) (fun _ h9 => h9) rfl dX11_findRound_129 ?_
        refine lv_iload hx hb dX11_findRound_132 (lv_at hl 2 rfl) ?_
        replace h := ck_eq h; obtain ⟨q_4, h⟩ := h
        refine R_lald hx hb hK hB rfl (inb_eq q_4) dX11_findRound_134 ?_
        refine lv_aload_n hx hb dX11_findRound_135 rfl (lv_at hl 0 rfl) ?_
        refine R_get (v := .ref (gL g 33)) hx hb ht ui_X11 hown hK hB (by decide) (cell_0 rfl) rfl 8 (by decide) (ht _ tw138) (fun _ h9 => h9) rfl dX11_findRound_136 ?_
        refine lv_iload hx hb dX11_findRound_139 (lv_at hl 1 rfl) ?_
        replace h := ck_eq h; obtain ⟨q_5, h⟩ := h
        refine R_lald hx hb hK hB rfl (inb_eq q_5) dX11_findRound_141 ?_
        refine W.lcmp hx hb dX11_findRound_142 ?_
        refine lv_if_ne (tgt := 158) hx hb dX11_findRound_143 (by decide) (fun c_6 => ?_) (fun c_6 => ?_)
        · replace h := itn h c_6
          refine lv_iinc (v := x6 + (-1)) (lv' := [(6, .int (x6 + (-1))), (0, .ref (gL g 0)), (5, .int x5)]) hx hb dX11_findRound_158 hl (k := 2) rfl rfl (by decide) rfl (fun ls hl => ?_)
          refine lv_goto (tgt := 123) hx hb dX11_findRound_161 (by decide) ?_
          obtain rfl := Option.some.inj h
          exact ih1 (x6 + (-1)) σ1 H locs ls hx1 hB (lv_sub hl [1, 2, 0] rfl)
        · replace h := itp h c_6
          replace h := ex_eq h; obtain ⟨b1, h, hz1⟩ := h
          subst hz1
          have hz1 := (itk_inr hx1).symm
          subst hz1
          refine lv_aload_n hx hb dX11_findRound_146 rfl (lv_at hl 0 rfl) ?_
          refine lv_iload hx hb dX11_findRound_147 (lv_at hl 1 rfl) ?_
          refine lv_iload hx hb dX11_findRound_149 (lv_at hl 1 rfl) ?_
          refine lv_iload hx hb dX11_findRound_151 (lv_at hl 2 rfl) ?_
          refine lv_isub hx hb dX11_findRound_153 ?_
          replace h := b2_eq h; obtain ⟨r_7, s_8, hc_9, h⟩ := h
          refine R_call (rest := []) [.int r_7] (R_runV (n := 2) (As := [.int x5, .int (x5 - x6)]) ⟨hx, hb, hml, hown, ht⟩ (fun _ h9 => h9) hK hZ hA hB (c_X11_keepRound l g P σ1 x5 (x5 - x6) H.size hc_9) (R_recv hK hB (by decide) (cell_0 rfl) rfl) tw702 tw699 tw701 pw18 tw1 ⟨by decide, by decide, by decide⟩ rfl rfl ⟨Nat.le_of_ble_eq_true rfl, Nat.le_of_ble_eq_true rfl⟩ rfl hl.1 rfl (Nat.le_of_ble_eq_true rfl) dX11_findRound_154 ⟨Nat.zero_le _, Nat.zero_le _⟩) hB hA rfl (fun H locs hB => ?_)
          replace h := ck_eq h; obtain ⟨q_10, h⟩ := h
          obtain ⟨rfl, rfl⟩ := Prod.mk.inj (Option.some.inj h)
          exact W.zret hx hb hr (isB_eq q_10) (R_end hB) hB.2.2.2.2 dX11_findRound_157
  have hL_13 : ∀ (x1 : Nat) (n : Nat) (x4 : Int32) (x5 : Int32) (σ1 : Hp) (H : Heap) (locs : List Loc) (ls : Array Slot), iter (f_X11_findRound_s13 x1) n (x4, x5, σ1) = some (r, τ) → tB g P σ1 A s.heap H locs → lv_has ls 8 [(0, .ref (gL g 0)), (1, .ref (P x1)), (4, .int x4), (5, .int x5)] → WQ p l e { frames := 3, cells := 0, slots := 0, locals := 85 } s m args below meth c g P A (some (.int r)) τ H locs (F0 m 13 ls []) := by
    intro x1 n
    induction n with
    | zero =>
      intro x4 x5 σ1 H locs ls h hB hl
      exact (iter_0 h).elim
    | succ n ih1 =>
      intro x4 x5 σ1 H locs ls h hB hl
      replace h := iter_eq h; obtain ⟨z1, hh1, hx1⟩ := h
      have hb_102 : ∀ (x4 : Int32) (x5 : Int32) (σ1 : Hp) (H : Heap) (locs : List Loc) (ls : Array Slot), f_X11_findRound_b102 x1 x4 x5 σ1 = some z1 → tB g P σ1 A s.heap H locs → lv_has ls 8 [(0, .ref (gL g 0)), (1, .ref (P x1)), (4, .int x4), (5, .int x5)] → WQ p l e { frames := 3, cells := 0, slots := 0, locals := 85 } s m args below meth c g P A (some (.int r)) τ H locs (F0 m 102 ls []) := by
        intro x4 x5 σ1 H locs ls h hB hl
        unfold f_X11_findRound_b102 at h
        refine lv_iinc (v := x5 + 1) (lv' := [(5, .int (x5 + 1)), (0, .ref (gL g 0)), (1, .ref (P x1)), (4, .int x4)]) hx hb dX11_findRound_102 hl (k := 3) rfl rfl (by decide) rfl (fun ls hl => ?_)
        refine lv_goto (tgt := 13) hx hb dX11_findRound_105 (by decide) ?_
        obtain rfl := Option.some.inj h
        exact ih1 x4 (x5 + 1) σ1 H locs ls hx1 hB (lv_sub hl [1, 2, 3, 0] rfl)
      have h : f_X11_findRound_t13 x1 x4 x5 σ1 = some z1 := hh1
      clear hh1
      unfold f_X11_findRound_t13 at h
      refine lv_iload hx hb dX11_findRound_13 (lv_at hl 3 rfl) ?_
      refine lv_aload_n hx hb dX11_findRound_15 rfl (lv_at hl 0 rfl) ?_
      refine R_get (v := .ref (gL g 33)) hx hb ht ui_X11 hown hK hB (by decide) (cell_0 rfl) rfl 8 (by decide) (ht _ tw138) (fun _ h9 => h9) rfl dX11_findRound_16 ?_
      refine R_alenJ hx hb (v := (1001 : Int32)) hK hB rfl rfl dX11_findRound_19 ?_
      refine lv_icmp_ge (tgt := 108) hx hb dX11_findRound_20 (by decide) (fun c_2 => ?_) (fun c_2 => ?_)
      · replace h := itp h c_2
        replace h := ex_eq h; obtain ⟨b1, h, hz1⟩ := h
        subst hz1
        have hz1 := (itk_inr hx1).symm
        subst hz1
        refine lv_aload_n hx hb dX11_findRound_108 rfl (lv_at hl 0 rfl) ?_
        refine R_get (v := .ref (gL g 33)) hx hb ht ui_X11 hown hK hB (by decide) (cell_0 rfl) rfl 8 (by decide) (ht _ tw138) (fun _ h9 => h9) rfl dX11_findRound_109 ?_
        refine R_alenJ hx hb (v := (1001 : Int32)) hK hB rfl rfl dX11_findRound_112 ?_
        refine lv_iconst (v := 1) hx hb dX11_findRound_113 (by decide) ?_
        refine lv_isub hx hb dX11_findRound_114 ?_
        refine lv_istore (lv' := [(5, .int ((1001 : Int32) - (1 : Int32))), (0, .ref (gL g 0)), (1, .ref (P x1)), (4, .int x4)]) hx hb dX11_findRound_115 hl (by decide) rfl (fun ls hl => ?_)
        refine lv_iload hx hb dX11_findRound_117 (lv_at hl 0 rfl) ?_
        refine lv_iconst (v := 1) hx hb dX11_findRound_119 (by decide) ?_
        refine lv_isub hx hb dX11_findRound_120 ?_
        refine lv_istore (lv' := [(6, .int (((1001 : Int32) - (1 : Int32)) - (1 : Int32))), (5, .int ((1001 : Int32) - (1 : Int32))), (0, .ref (gL g 0)), (1, .ref (P x1)), (4, .int x4)]) hx hb dX11_findRound_121 hl (by decide) rfl (fun ls hl => ?_)
        exact hL_123 ((1001 : Int32) - (1 : Int32)) fuel (((1001 : Int32) - (1 : Int32)) - (1 : Int32)) σ1 H locs ls h hB (lv_sub hl [2, 1, 0] rfl)
      · replace h := itn h c_2
        refine lv_aload_n hx hb dX11_findRound_23 rfl (lv_at hl 1 rfl) ?_
        refine lv_aload_n hx hb dX11_findRound_24 rfl (lv_at hl 0 rfl) ?_
        refine R_get (v := .ref (gL g 33)) hx hb ht ui_X11 hown hK hB (by decide) (cell_0 rfl) rfl 8 (by decide) (ht _ tw138) (fun _ h9 => h9) rfl dX11_findRound_25 ?_
        refine lv_iload hx hb dX11_findRound_28 (lv_at hl 3 rfl) ?_
        refine lv_iconst (v := 1) hx hb dX11_findRound_30 (by decide) ?_
        refine lv_isub hx hb dX11_findRound_31 ?_
        replace h := ck_eq h; obtain ⟨q_11, h⟩ := h
        refine R_lald hx hb hK hB rfl (inb_eq q_11) dX11_findRound_32 ?_
        refine lv_aload_n hx hb dX11_findRound_33 rfl (lv_at hl 0 rfl) ?_
        refine R_get (v := .ref (gL g 1)) hx hb ht ui_X11 hown hK hB (by decide) (cell_0 rfl) rfl 0 (by decide) (ht _ tw130) (fun _ h9 => h9) rfl dX11_findRound_34 ?_
        replace h := ck_eq h; obtain ⟨q_12, h⟩ := h
        replace h := b2_eq h; obtain ⟨r_13, s_14, hc_15, h⟩ := h
        refine R_call (rest := []) [.long r_13] (dv_onward ⟨hx, hb, hml, hown, ht⟩ hK hZ hA hB q_12 rfl tw281 hc_15 (Nat.le_of_ble_eq_true rfl) (Nat.le_of_ble_eq_true rfl) hl.1 rfl (Nat.le_of_ble_eq_true rfl) dX11_findRound_37 (Nat.zero_le _) (Nat.zero_le _)) hB hA rfl (fun H locs hB => ?_)
        refine lv_lstore (lv' := [(6, .long r_13), (0, .ref (gL g 0)), (1, .ref (P x1)), (4, .int x4), (5, .int x5)]) hx hb dX11_findRound_40 hl (by decide) rfl (fun ls hl => ?_)
        refine lv_lload hx hb dX11_findRound_42 (lv_at hl 0 rfl) ?_
        refine lv_ldc2 (v := -1) hx hb hown (ht _ tw670) dX11_findRound_44 ?_
        refine W.lcmp hx hb dX11_findRound_47 ?_
        refine lv_if_ne (tgt := 53) hx hb dX11_findRound_48 (by decide) (fun c_16 => ?_) (fun c_16 => ?_)
        · replace h := itn h c_16
          refine lv_aload_n hx hb dX11_findRound_53 rfl (lv_at hl 1 rfl) ?_
          refine R_get (v := .ref (gL g 33)) hx hb ht ui_X11 hown hK hB (by decide) (cell_0 rfl) rfl 8 (by decide) (ht _ tw138) (fun _ h9 => h9) rfl dX11_findRound_54 ?_
          refine lv_iload hx hb dX11_findRound_57 (lv_at hl 4 rfl) ?_
          refine lv_lload hx hb dX11_findRound_59 (lv_at hl 0 rfl) ?_
          replace h := ck_eq h; obtain ⟨q_17, h⟩ := h
          refine R_last hx hb hK hB rfl (inb_eq q_17) dX11_findRound_61 (fun H locs hB => ?_)
          refine lv_lload hx hb dX11_findRound_62 (lv_at hl 0 rfl) ?_
          refine lv_aload_n hx hb dX11_findRound_64 rfl (lv_at hl 1 rfl) ?_
          refine R_get (v := .ref (gL g 33)) hx hb ht ui_X11 hown hK hB (by decide) (cell_0 rfl) rfl 8 (by decide) (ht _ tw138) (fun _ h9 => h9) rfl dX11_findRound_65 ?_
          refine lv_iload hx hb dX11_findRound_68 (lv_at hl 3 rfl) ?_
          replace h := ck_eq h; obtain ⟨q_18, h⟩ := h
          refine R_lald hx hb hK hB rfl (inb_eq q_18) dX11_findRound_70 ?_
          refine W.lcmp hx hb dX11_findRound_71 ?_
          refine lv_if_ne (tgt := 87) hx hb dX11_findRound_72 (by decide) (fun c_19 => ?_) (fun c_19 => ?_)
          · replace h := itn h c_19
            refine lv_iload hx hb dX11_findRound_87 (lv_at hl 4 rfl) ?_
            refine lv_iconst (v := 2) hx hb dX11_findRound_89 (by decide) ?_
            refine lv_iload hx hb dX11_findRound_90 (lv_at hl 3 rfl) ?_
            refine lv_imul hx hb dX11_findRound_92 ?_
            refine lv_iconst (v := 1) hx hb dX11_findRound_93 (by decide) ?_
            refine lv_iadd hx hb dX11_findRound_94 ?_
            refine lv_icmp_ne (tgt := 102) hx hb dX11_findRound_95 (by decide) (fun c_20 => ?_) (fun c_20 => ?_)
            · replace h := itn h c_20
              exact hb_102 x4 x5 (sJ s_14 33 x5.toNatClampNeg r_13) H locs ls h hB (lv_sub hl [1, 2, 3, 4] rfl)
            · replace h := itp h c_20
              refine lv_iload hx hb dX11_findRound_98 (lv_at hl 4 rfl) ?_
              refine lv_istore (lv' := [(4, .int x5), (6, .long r_13), (0, .ref (gL g 0)), (1, .ref (P x1)), (5, .int x5)]) hx hb dX11_findRound_100 hl (by decide) rfl (fun ls hl => ?_)
              exact hb_102 x5 x5 (sJ s_14 33 x5.toNatClampNeg r_13) H locs ls h hB (lv_sub hl [2, 3, 0, 4] rfl)
          · replace h := itp h c_19
            replace h := ex_eq h; obtain ⟨b1, h, hz1⟩ := h
            subst hz1
            have hz1 := (itk_inr hx1).symm
            subst hz1
            refine lv_aload_n hx hb dX11_findRound_75 rfl (lv_at hl 1 rfl) ?_
            refine lv_iload hx hb dX11_findRound_76 (lv_at hl 4 rfl) ?_
            refine lv_iload hx hb dX11_findRound_78 (lv_at hl 4 rfl) ?_
            refine lv_iload hx hb dX11_findRound_80 (lv_at hl 3 rfl) ?_
            refine lv_isub hx hb dX11_findRound_82 ?_
            replace h := b2_eq h; obtain ⟨r_21, s_22, hc_23, h⟩ := h
            refine R_call (rest := []) [.int r_21] (R_runV (n := 2) (As := [.int x5, .int (x5 - x4)]) ⟨hx, hb, hml, hown, ht⟩ (fun _ h9 => h9) hK hZ hA hB (c_X11_keepRound l g P (sJ s_14 33 x5.toNatClampNeg r_13) x5 (x5 - x4) H.size hc_23) (R_recv hK hB (by decide) (cell_0 rfl) rfl) tw702 tw699 tw701 pw18 tw1 ⟨by decide, by decide, by decide⟩ rfl rfl ⟨Nat.le_of_ble_eq_true rfl, Nat.le_of_ble_eq_true rfl⟩ rfl hl.1 rfl (Nat.le_of_ble_eq_true rfl) dX11_findRound_83 ⟨Nat.zero_le _, Nat.zero_le _⟩) hB hA rfl (fun H locs hB => ?_)
            replace h := ck_eq h; obtain ⟨q_24, h⟩ := h
            obtain ⟨rfl, rfl⟩ := Prod.mk.inj (Option.some.inj h)
            exact W.zret hx hb hr (isB_eq q_24) (R_end hB) hB.2.2.2.2 dX11_findRound_86
        · replace h := itp h c_16
          replace h := ex_eq h; obtain ⟨b1, h, hz1⟩ := h
          subst hz1
          have hz1 := (itk_inr hx1).symm
          subst hz1
          refine lv_iconst (v := 0) hx hb dX11_findRound_51 (by decide) ?_
          obtain ⟨rfl, rfl⟩ := Prod.mk.inj (Option.some.inj h)
          exact W.zret hx hb hr rfl (R_end hB) hB.2.2.2.2 dX11_findRound_52
  suffices hmain : ∀ (H : Heap) (locs : List Loc) (ls : Array Slot), tB g P σ A s.heap H locs → lv_has ls 8 [(0, .ref (gL g 0)), (1, .ref (P j1)), (2, .long a2)] → WQ p l e { frames := 3, cells := 0, slots := 0, locals := 85 } s m args below meth c g P A (some (.int r)) τ H locs (F0 m 0 ls []) from hmain _ _ ls0 hB0 hl0
  intro H locs ls hB hl
  unfold f_X11_findRound at h
  refine lv_iconst (v := 0) hx hb dX11_findRound_0 (by decide) ?_
  refine lv_istore (lv' := [(4, .int (0 : Int32)), (0, .ref (gL g 0)), (1, .ref (P j1)), (2, .long a2)]) hx hb dX11_findRound_1 hl (by decide) rfl (fun ls hl => ?_)
  refine lv_aload_n hx hb dX11_findRound_3 rfl (lv_at hl 1 rfl) ?_
  refine R_get (v := .ref (gL g 33)) hx hb ht ui_X11 hown hK hB (by decide) (cell_0 rfl) rfl 8 (by decide) (ht _ tw138) (fun _ h9 => h9) rfl dX11_findRound_4 ?_
  refine lv_iconst (v := 0) hx hb dX11_findRound_7 (by decide) ?_
  refine lv_lload_n hx hb dX11_findRound_8 rfl (lv_at hl 3 rfl) ?_
  replace h := ck_eq h; obtain ⟨q_1, h⟩ := h
  refine R_last hx hb hK hB rfl (inb_eq q_1) dX11_findRound_9 (fun H locs hB => ?_)
  refine lv_iconst (v := 1) hx hb dX11_findRound_10 (by decide) ?_
  refine lv_istore (lv' := [(5, .int (1 : Int32)), (4, .int (0 : Int32)), (0, .ref (gL g 0)), (1, .ref (P j1)), (2, .long a2)]) hx hb dX11_findRound_11 hl (by decide) rfl (fun ls hl => ?_)
  exact hL_13 j1 fuel (0 : Int32) (1 : Int32) (sJ σ 33 (0 : Int32).toNatClampNeg a2) H locs ls h hB (lv_sub hl [2, 3, 1, 0] rfl)
def f_X11_round_b37 (σ1 : Hp) : Option (Int64 × Hp) := b2 (f_X11_refuse (-5 : Int32) σ1) (fun r_9 s_10 => some (r_9.toInt64, s_10))
def f_X11_round (a1 : Int32) (a2 : Int64) (a4 : Int32) (σ : Hp) : Option (Int64 × Hp) := b2 (f_X7_lawAt 1 a1 σ) (fun r_1 s_2 => cs r_1 (b2 (f_X11_refuse (-1 : Int32) s_2) (fun r_5 s_6 => some (r_5.toInt64, s_6))) (fun y_4 => if a4 < 0 then f_X11_round_b37 s_2 else if a4 < (3 : Int32) then b2 (f_X11_isNumber a2 s_2) (fun r_13 s_14 => if r_13 = 0 then b2 (f_X11_refuse (-6 : Int32) s_14) (fun r_25 s_26 => some (r_25.toInt64, s_26)) else b2 (f_X11_findRound y_4 a2 s_14) (fun r_17 s_18 => if r_17 = 0 then b2 (f_X11_refuse (-5 : Int32) s_18) (fun r_21 s_22 => some (r_21.toInt64, s_22)) else ck (inb a4 3 = true) (some ((hJ s_18 34 a4.toNatClampNeg), s_18)))) else f_X11_round_b37 s_2))
set_option maxHeartbeats 4000000 in
set_option maxRecDepth 100000 in
theorem c_X11_round (l : Launch) (g : tG) (P : Nat → Nat) (σ : Hp) (a1 : Int32) (a2 : Int64) (a4 : Int32) (sz : Nat) {r : Int64} {τ : Hp} (h : f_X11_round a1 a2 a4 σ = some (r, τ)) : Met l yX11_round (Cond.code yX11_round cX11_round 6 (some .long) :: tblG) ({ frames := 4, cells := 0, slots := 0, locals := 112 }) (va_Pc [.ref (gL g 0), .int a1, .long a2, .int a4] (tPre g P σ sz)) (tQ (some (.long r)) (tPost g P τ (va_A (wC g P σ) sz)) (va_A (wC g P σ) sz)) 0 0 (va_A (wC g P σ) sz) := by
  refine T_start (B := fun A => tPost g P τ A) (by decide) (Nat.le_of_ble_eq_true rfl) ?_
  intro p e s m args below meth c ls0 A hx hb hml hr hown hlocks ht hnm hK hZ hA hB0 hl0
  have hb_37 : ∀ (σ1 : Hp) (H : Heap) (locs : List Loc) (ls : Array Slot), f_X11_round_b37 σ1 = some (r, τ) → tB g P σ1 A s.heap H locs → lv_has ls 6 [(0, .ref (gL g 0))] → WQ p l e { frames := 4, cells := 0, slots := 0, locals := 112 } s m args below meth c g P A (some (.long r)) τ H locs (F0 m 37 ls []) := by
    intro σ1 H locs ls h hB hl
    unfold f_X11_round_b37 at h
    refine lv_aload_n hx hb dX11_round_37 rfl (lv_at hl 0 rfl) ?_
    refine lv_bipush (v := -5) hx hb dX11_round_38 (by decide) ?_
    replace h := b2_eq h; obtain ⟨r_9, s_10, hc_11, h⟩ := h
    refine R_call (rest := []) [.int r_9] (R_runV (n := 1) (As := [.int (-5 : Int32)]) ⟨hx, hb, hml, hown, ht⟩ (fun _ h9 => h9) hK hZ hA hB (c_X11_refuse l g P σ1 (-5 : Int32) H.size hc_11) (R_recv hK hB (by decide) (cell_0 rfl) rfl) tw178 tw175 tw177 pw1 tw1 ⟨by decide, by decide, by decide⟩ rfl rfl ⟨Nat.le_of_ble_eq_true rfl, Nat.le_of_ble_eq_true rfl⟩ rfl hl.1 rfl (Nat.le_of_ble_eq_true rfl) dX11_round_40 ⟨Nat.zero_le _, Nat.zero_le _⟩) hB hA rfl (fun H locs hB => ?_)
    refine lv_i2l (v := r_9.toInt64) hx hb dX11_round_43 rfl ?_
    obtain ⟨rfl, rfl⟩ := Prod.mk.inj (Option.some.inj h)
    exact W.lret hx hb hr (R_end hB) hB.2.2.2.2 dX11_round_44
  suffices hmain : ∀ (H : Heap) (locs : List Loc) (ls : Array Slot), tB g P σ A s.heap H locs → lv_has ls 6 [(0, .ref (gL g 0)), (1, .int a1), (2, .long a2), (4, .int a4)] → WQ p l e { frames := 4, cells := 0, slots := 0, locals := 112 } s m args below meth c g P A (some (.long r)) τ H locs (F0 m 0 ls []) from hmain _ _ ls0 hB0 hl0
  intro H locs ls hB hl
  unfold f_X11_round at h
  refine lv_aload_n hx hb dX11_round_0 rfl (lv_at hl 0 rfl) ?_
  refine R_get (v := .ref (gL g 1)) hx hb ht ui_X11 hown hK hB (by decide) (cell_0 rfl) rfl 0 (by decide) (ht _ tw130) (fun _ h9 => h9) rfl dX11_round_1 ?_
  refine lv_iload_n hx hb dX11_round_4 rfl (lv_at hl 1 rfl) ?_
  replace h := b2_eq h; obtain ⟨r_1, s_2, hc_3, h⟩ := h
  refine R_call (rest := []) [va_rf (Option.map P r_1)] (R_runV (n := 1) (As := [.int a1]) ⟨hx, hb, hml, hown, ht⟩ (fun _ h9 => h9) hK hZ hA hB (c_X7_lawAt l g P σ 1 a1 rfl H.size hc_3) (R_recv hK hB (by decide) (cell_1 rfl) rfl) tw228 tw225 tw226 tw227 tw2 ⟨by decide, by decide, by decide⟩ rfl rfl ⟨Nat.le_of_ble_eq_true rfl, Nat.le_of_ble_eq_true rfl⟩ rfl hl.1 rfl (Nat.le_of_ble_eq_true rfl) dX11_round_5 ⟨Nat.zero_le _, Nat.zero_le _⟩) hB hA rfl (fun H locs hB => ?_)
  refine lv_astoreR (lv' := [(5, va_rf (Option.map P r_1)), (0, .ref (gL g 0)), (1, .int a1), (2, .long a2), (4, .int a4)]) hx hb dX11_round_8 hl (by decide) rfl (fun ls hl => ?_)
  refine lv_aloadR hx hb dX11_round_10 (lv_at hl 0 rfl) ?_
  rcases r_1 with _ | y_4
  · replace h := cs_n h
    have hl : lv_has ls 6 [(5, .null), (0, .ref (gL g 0)), (1, .int a1), (2, .long a2), (4, .int a4)] := hl
    refine lv_ifnonnullN hx hb dX11_round_12 ?_
    refine lv_aload_n hx hb dX11_round_15 rfl (lv_at hl 1 rfl) ?_
    refine lv_iconst (v := -1) hx hb dX11_round_16 (by decide) ?_
    replace h := b2_eq h; obtain ⟨r_5, s_6, hc_7, h⟩ := h
    refine R_call (rest := []) [.int r_5] (R_runV (n := 1) (As := [.int (-1 : Int32)]) ⟨hx, hb, hml, hown, ht⟩ (fun _ h9 => h9) hK hZ hA hB (c_X11_refuse l g P s_2 (-1 : Int32) H.size hc_7) (R_recv hK hB (by decide) (cell_0 rfl) rfl) tw178 tw175 tw177 pw1 tw1 ⟨by decide, by decide, by decide⟩ rfl rfl ⟨Nat.le_of_ble_eq_true rfl, Nat.le_of_ble_eq_true rfl⟩ rfl hl.1 rfl (Nat.le_of_ble_eq_true rfl) dX11_round_17 ⟨Nat.zero_le _, Nat.zero_le _⟩) hB hA rfl (fun H locs hB => ?_)
    refine lv_i2l (v := r_5.toInt64) hx hb dX11_round_20 rfl ?_
    obtain ⟨rfl, rfl⟩ := Prod.mk.inj (Option.some.inj h)
    exact W.lret hx hb hr (R_end hB) hB.2.2.2.2 dX11_round_21
  · replace h := cs_s h
    have hl : lv_has ls 6 [(5, .ref (P y_4)), (0, .ref (gL g 0)), (1, .int a1), (2, .long a2), (4, .int a4)] := hl
    refine lv_ifnonnull (tgt := 22) hx hb dX11_round_12 (by decide) ?_
    refine lv_iload hx hb dX11_round_22 (lv_at hl 4 rfl) ?_
    refine lv_if_lt (tgt := 37) hx hb dX11_round_24 (by decide) (fun c_8 => ?_) (fun c_8 => ?_)
    · replace h := itp h c_8
      exact hb_37 s_2 H locs ls h hB (lv_sub hl [1] rfl)
    · replace h := itn h c_8
      refine lv_iload hx hb dX11_round_27 (lv_at hl 4 rfl) ?_
      refine lv_aload_n hx hb dX11_round_29 rfl (lv_at hl 1 rfl) ?_
      refine R_get (v := .ref (gL g 34)) hx hb ht ui_X11 hown hK hB (by decide) (cell_0 rfl) rfl 9 (by decide) (ht _ tw139) (fun _ h9 => h9) rfl dX11_round_30 ?_
      refine R_alenJ hx hb (v := (3 : Int32)) hK hB rfl rfl dX11_round_33 ?_
      refine lv_icmp_lt (tgt := 45) hx hb dX11_round_34 (by decide) (fun c_12 => ?_) (fun c_12 => ?_)
      · replace h := itp h c_12
        refine lv_lload_n hx hb dX11_round_45 rfl (lv_at hl 3 rfl) ?_
        replace h := b2_eq h; obtain ⟨r_13, s_14, hc_15, h⟩ := h
        refine R_call (rest := []) [.int r_13] (R_runS (n := 1) (As := [.long a2]) ⟨hx, hb, hml, hown, ht⟩ (fun _ h9 => h9) hK hZ hA hB (c_X11_isNumber l g P s_2 a2 H.size hc_15) tw622 tw620 tw621 tw1 ⟨by decide, by decide, by decide⟩ rfl rfl ⟨Nat.le_of_ble_eq_true rfl, Nat.le_of_ble_eq_true rfl⟩ rfl hl.1 rfl (Nat.le_of_ble_eq_true rfl) dX11_round_46 ⟨Nat.zero_le _, Nat.zero_le _⟩) hB hA rfl (fun H locs hB => ?_)
        refine lv_if_ne (tgt := 60) hx hb dX11_round_49 (by decide) (fun c_16 => ?_) (fun c_16 => ?_)
        · replace h := itn h c_16
          refine lv_aload_n hx hb dX11_round_60 rfl (lv_at hl 1 rfl) ?_
          refine lv_aload hx hb dX11_round_61 (lv_at hl 0 rfl) ?_
          refine lv_lload_n hx hb dX11_round_63 rfl (lv_at hl 3 rfl) ?_
          replace h := b2_eq h; obtain ⟨r_17, s_18, hc_19, h⟩ := h
          refine R_call (rest := []) [.int r_17] (R_runV (n := 2) (As := [.ref (P y_4), .long a2]) ⟨hx, hb, hml, hown, ht⟩ (fun _ h9 => h9) hK hZ hA hB (c_X11_findRound l g P s_14 y_4 a2 H.size hc_19) (R_recv hK hB (by decide) (cell_0 rfl) rfl) tw698 tw695 tw697 pw17 tw1 ⟨by decide, by decide, by decide⟩ rfl rfl ⟨Nat.le_of_ble_eq_true rfl, Nat.le_of_ble_eq_true rfl⟩ rfl hl.1 rfl (Nat.le_of_ble_eq_true rfl) dX11_round_64 ⟨Nat.zero_le _, Nat.zero_le _⟩) hB hA rfl (fun H locs hB => ?_)
          refine lv_if_eq (tgt := 80) hx hb dX11_round_67 (by decide) (fun c_20 => ?_) (fun c_20 => ?_)
          · replace h := itp h c_20
            refine lv_aload_n hx hb dX11_round_80 rfl (lv_at hl 1 rfl) ?_
            refine lv_bipush (v := -5) hx hb dX11_round_81 (by decide) ?_
            replace h := b2_eq h; obtain ⟨r_21, s_22, hc_23, h⟩ := h
            refine R_call (rest := []) [.int r_21] (R_runV (n := 1) (As := [.int (-5 : Int32)]) ⟨hx, hb, hml, hown, ht⟩ (fun _ h9 => h9) hK hZ hA hB (c_X11_refuse l g P s_18 (-5 : Int32) H.size hc_23) (R_recv hK hB (by decide) (cell_0 rfl) rfl) tw178 tw175 tw177 pw1 tw1 ⟨by decide, by decide, by decide⟩ rfl rfl ⟨Nat.le_of_ble_eq_true rfl, Nat.le_of_ble_eq_true rfl⟩ rfl hl.1 rfl (Nat.le_of_ble_eq_true rfl) dX11_round_83 ⟨Nat.zero_le _, Nat.zero_le _⟩) hB hA rfl (fun H locs hB => ?_)
            refine lv_i2l (v := r_21.toInt64) hx hb dX11_round_86 rfl ?_
            obtain ⟨rfl, rfl⟩ := Prod.mk.inj (Option.some.inj h)
            exact W.lret hx hb hr (R_end hB) hB.2.2.2.2 dX11_round_87
          · replace h := itn h c_20
            refine lv_aload_n hx hb dX11_round_70 rfl (lv_at hl 1 rfl) ?_
            refine R_get (v := .ref (gL g 34)) hx hb ht ui_X11 hown hK hB (by decide) (cell_0 rfl) rfl 9 (by decide) (ht _ tw139) (fun _ h9 => h9) rfl dX11_round_71 ?_
            refine lv_iload hx hb dX11_round_74 (lv_at hl 4 rfl) ?_
            replace h := ck_eq h; obtain ⟨q_24, h⟩ := h
            refine R_lald hx hb hK hB rfl (inb_eq q_24) dX11_round_76 ?_
            refine lv_goto (tgt := 87) hx hb dX11_round_77 (by decide) ?_
            obtain ⟨rfl, rfl⟩ := Prod.mk.inj (Option.some.inj h)
            exact W.lret hx hb hr (R_end hB) hB.2.2.2.2 dX11_round_87
        · replace h := itp h c_16
          refine lv_aload_n hx hb dX11_round_52 rfl (lv_at hl 1 rfl) ?_
          refine lv_bipush (v := -6) hx hb dX11_round_53 (by decide) ?_
          replace h := b2_eq h; obtain ⟨r_25, s_26, hc_27, h⟩ := h
          refine R_call (rest := []) [.int r_25] (R_runV (n := 1) (As := [.int (-6 : Int32)]) ⟨hx, hb, hml, hown, ht⟩ (fun _ h9 => h9) hK hZ hA hB (c_X11_refuse l g P s_14 (-6 : Int32) H.size hc_27) (R_recv hK hB (by decide) (cell_0 rfl) rfl) tw178 tw175 tw177 pw1 tw1 ⟨by decide, by decide, by decide⟩ rfl rfl ⟨Nat.le_of_ble_eq_true rfl, Nat.le_of_ble_eq_true rfl⟩ rfl hl.1 rfl (Nat.le_of_ble_eq_true rfl) dX11_round_55 ⟨Nat.zero_le _, Nat.zero_le _⟩) hB hA rfl (fun H locs hB => ?_)
          refine lv_i2l (v := r_25.toInt64) hx hb dX11_round_58 rfl ?_
          obtain ⟨rfl, rfl⟩ := Prod.mk.inj (Option.some.inj h)
          exact W.lret hx hb hr (R_end hB) hB.2.2.2.2 dX11_round_59
      · replace h := itn h c_12
        exact hb_37 s_2 H locs ls h hB (lv_sub hl [1] rfl)
def f_X11_keepRun_t6 (x1 : Nat) (x4 : Int32) (x5 : Int32) (x6 : Int64) (σ1 : Hp) : Option ((Int32 × Int64 × Hp) ⊕ (Int32 × Hp)) := if x4 ≤ x5 then ex (some (x5, σ1)) else if (1001 : Int32) ≤ x5 then ex (some (x5, σ1)) else if (lg_cmp x6 (-1 : Int64)) = 0 then ex (some (x5, σ1)) else ck (inb x5 1001 = true) (ck (isLaw (sJ σ1 33 x5.toNatClampNeg x6) x1 = true) (b2 (v_onward x1 x6 1 (sJ σ1 33 x5.toNatClampNeg x6)) (fun r_6 s_7 => some (.inl ((x5 + 1), r_6, s_7)))))
def f_X11_keepRun_s6 (x1 : Nat) (x4 : Int32) (v : (Int32 × Int64 × Hp)) : Option ((Int32 × Int64 × Hp) ⊕ (Int32 × Hp)) := f_X11_keepRun_t6 x1 x4 v.1 v.2.1 v.2.2
def f_X11_keepRun (j1 : Nat) (a2 : Int64) (a4 : Int32) (σ : Hp) : Option (Int32 × Hp) := iter (f_X11_keepRun_s6 j1 a4) fuel ((0 : Int32), a2, σ)
set_option maxHeartbeats 4000000 in
set_option maxRecDepth 100000 in
theorem c_X11_keepRun (l : Launch) (g : tG) (P : Nat → Nat) (σ : Hp) (j1 : Nat) (a2 : Int64) (a4 : Int32) (sz : Nat) {r : Int32} {τ : Hp} (h : f_X11_keepRun j1 a2 a4 σ = some (r, τ)) : Met l yX11_keepRun (Cond.code yX11_keepRun cX11_keepRun 8 (some .int) :: tblG) ({ frames := 3, cells := 0, slots := 0, locals := 85 }) (va_Pc [.ref (gL g 0), .ref (P j1), .long a2, .int a4] (tPre g P σ sz)) (tQ (some (.int r)) (tPost g P τ (va_A (wC g P σ) sz)) (va_A (wC g P σ) sz)) 0 0 (va_A (wC g P σ) sz) := by
  refine T_start (B := fun A => tPost g P τ A) (by decide) (Nat.le_of_ble_eq_true rfl) ?_
  intro p e s m args below meth c ls0 A hx hb hml hr hown hlocks ht hnm hK hZ hA hB0 hl0
  have hL_6 : ∀ (x1 : Nat) (x4 : Int32) (n : Nat) (x5 : Int32) (x6 : Int64) (σ1 : Hp) (H : Heap) (locs : List Loc) (ls : Array Slot), iter (f_X11_keepRun_s6 x1 x4) n (x5, x6, σ1) = some (r, τ) → tB g P σ1 A s.heap H locs → lv_has ls 8 [(0, .ref (gL g 0)), (1, .ref (P x1)), (4, .int x4), (5, .int x5), (6, .long x6)] → WQ p l e { frames := 3, cells := 0, slots := 0, locals := 85 } s m args below meth c g P A (some (.int r)) τ H locs (F0 m 6 ls []) := by
    intro x1 x4 n
    induction n with
    | zero =>
      intro x5 x6 σ1 H locs ls h hB hl
      exact (iter_0 h).elim
    | succ n ih1 =>
      intro x5 x6 σ1 H locs ls h hB hl
      replace h := iter_eq h; obtain ⟨z1, hh1, hx1⟩ := h
      have h : f_X11_keepRun_t6 x1 x4 x5 x6 σ1 = some z1 := hh1
      clear hh1
      unfold f_X11_keepRun_t6 at h
      refine lv_iload hx hb dX11_keepRun_6 (lv_at hl 3 rfl) ?_
      refine lv_iload hx hb dX11_keepRun_8 (lv_at hl 2 rfl) ?_
      refine lv_icmp_ge (tgt := 59) hx hb dX11_keepRun_10 (by decide) (fun c_1 => ?_) (fun c_1 => ?_)
      · replace h := itp h c_1
        replace h := ex_eq h; obtain ⟨b1, h, hz1⟩ := h
        subst hz1
        have hz1 := (itk_inr hx1).symm
        subst hz1
        refine lv_iload hx hb dX11_keepRun_59 (lv_at hl 3 rfl) ?_
        obtain ⟨rfl, rfl⟩ := Prod.mk.inj (Option.some.inj h)
        exact W.iret hx hb hr (R_end hB) hB.2.2.2.2 dX11_keepRun_61
      · replace h := itn h c_1
        refine lv_iload hx hb dX11_keepRun_13 (lv_at hl 3 rfl) ?_
        refine lv_aload_n hx hb dX11_keepRun_15 rfl (lv_at hl 0 rfl) ?_
        refine R_get (v := .ref (gL g 33)) hx hb ht ui_X11 hown hK hB (by decide) (cell_0 rfl) rfl 8 (by decide) (ht _ tw138) (fun _ h9 => h9) rfl dX11_keepRun_16 ?_
        refine R_alenJ hx hb (v := (1001 : Int32)) hK hB rfl rfl dX11_keepRun_19 ?_
        refine lv_icmp_ge (tgt := 59) hx hb dX11_keepRun_20 (by decide) (fun c_2 => ?_) (fun c_2 => ?_)
        · replace h := itp h c_2
          replace h := ex_eq h; obtain ⟨b1, h, hz1⟩ := h
          subst hz1
          have hz1 := (itk_inr hx1).symm
          subst hz1
          refine lv_iload hx hb dX11_keepRun_59 (lv_at hl 3 rfl) ?_
          obtain ⟨rfl, rfl⟩ := Prod.mk.inj (Option.some.inj h)
          exact W.iret hx hb hr (R_end hB) hB.2.2.2.2 dX11_keepRun_61
        · replace h := itn h c_2
          refine lv_lload hx hb dX11_keepRun_23 (lv_at hl 4 rfl) ?_
          refine lv_ldc2 (v := -1) hx hb hown (ht _ tw670) dX11_keepRun_25 ?_
          refine W.lcmp hx hb dX11_keepRun_28 ?_
          refine lv_if_eq (tgt := 59) hx hb dX11_keepRun_29 (by decide) (fun c_3 => ?_) (fun c_3 => ?_)
          · replace h := itp h c_3
            replace h := ex_eq h; obtain ⟨b1, h, hz1⟩ := h
            subst hz1
            have hz1 := (itk_inr hx1).symm
            subst hz1
            refine lv_iload hx hb dX11_keepRun_59 (lv_at hl 3 rfl) ?_
            obtain ⟨rfl, rfl⟩ := Prod.mk.inj (Option.some.inj h)
            exact W.iret hx hb hr (R_end hB) hB.2.2.2.2 dX11_keepRun_61
          · replace h := itn h c_3
            refine lv_aload_n hx hb dX11_keepRun_32 rfl (lv_at hl 0 rfl) ?_
            refine R_get (v := .ref (gL g 33)) hx hb ht ui_X11 hown hK hB (by decide) (cell_0 rfl) rfl 8 (by decide) (ht _ tw138) (fun _ h9 => h9) rfl dX11_keepRun_33 ?_
            refine lv_iload hx hb dX11_keepRun_36 (lv_at hl 3 rfl) ?_
            refine lv_lload hx hb dX11_keepRun_38 (lv_at hl 4 rfl) ?_
            replace h := ck_eq h; obtain ⟨q_4, h⟩ := h
            refine R_last hx hb hK hB rfl (inb_eq q_4) dX11_keepRun_40 (fun H locs hB => ?_)
            refine lv_aload_n hx hb dX11_keepRun_41 rfl (lv_at hl 1 rfl) ?_
            refine lv_lload hx hb dX11_keepRun_42 (lv_at hl 4 rfl) ?_
            refine lv_aload_n hx hb dX11_keepRun_44 rfl (lv_at hl 0 rfl) ?_
            refine R_get (v := .ref (gL g 1)) hx hb ht ui_X11 hown hK hB (by decide) (cell_0 rfl) rfl 0 (by decide) (ht _ tw130) (fun _ h9 => h9) rfl dX11_keepRun_45 ?_
            replace h := ck_eq h; obtain ⟨q_5, h⟩ := h
            replace h := b2_eq h; obtain ⟨r_6, s_7, hc_8, h⟩ := h
            refine R_call (rest := []) [.long r_6] (dv_onward ⟨hx, hb, hml, hown, ht⟩ hK hZ hA hB q_5 rfl tw281 hc_8 (Nat.le_of_ble_eq_true rfl) (Nat.le_of_ble_eq_true rfl) hl.1 rfl (Nat.le_of_ble_eq_true rfl) dX11_keepRun_48 (Nat.zero_le _) (Nat.zero_le _)) hB hA rfl (fun H locs hB => ?_)
            refine lv_lstore (lv' := [(6, .long r_6), (0, .ref (gL g 0)), (1, .ref (P x1)), (4, .int x4), (5, .int x5)]) hx hb dX11_keepRun_51 hl (by decide) rfl (fun ls hl => ?_)
            refine lv_iinc (v := x5 + 1) (lv' := [(5, .int (x5 + 1)), (6, .long r_6), (0, .ref (gL g 0)), (1, .ref (P x1)), (4, .int x4)]) hx hb dX11_keepRun_53 hl (k := 4) rfl rfl (by decide) rfl (fun ls hl => ?_)
            refine lv_goto (tgt := 6) hx hb dX11_keepRun_56 (by decide) ?_
            obtain rfl := Option.some.inj h
            exact ih1 (x5 + 1) r_6 s_7 H locs ls hx1 hB (lv_sub hl [2, 3, 4, 0, 1] rfl)
  suffices hmain : ∀ (H : Heap) (locs : List Loc) (ls : Array Slot), tB g P σ A s.heap H locs → lv_has ls 8 [(0, .ref (gL g 0)), (1, .ref (P j1)), (2, .long a2), (4, .int a4)] → WQ p l e { frames := 3, cells := 0, slots := 0, locals := 85 } s m args below meth c g P A (some (.int r)) τ H locs (F0 m 0 ls []) from hmain _ _ ls0 hB0 hl0
  intro H locs ls hB hl
  unfold f_X11_keepRun at h
  refine lv_iconst (v := 0) hx hb dX11_keepRun_0 (by decide) ?_
  refine lv_istore (lv' := [(5, .int (0 : Int32)), (0, .ref (gL g 0)), (1, .ref (P j1)), (2, .long a2), (4, .int a4)]) hx hb dX11_keepRun_1 hl (by decide) rfl (fun ls hl => ?_)
  refine lv_lload_n hx hb dX11_keepRun_3 rfl (lv_at hl 3 rfl) ?_
  refine lv_lstore (lv' := [(6, .long a2), (5, .int (0 : Int32)), (0, .ref (gL g 0)), (1, .ref (P j1)), (2, .long a2), (4, .int a4)]) hx hb dX11_keepRun_4 hl (by decide) rfl (fun ls hl => ?_)
  exact hL_6 j1 a4 fuel (0 : Int32) a2 σ H locs ls h hB (lv_sub hl [2, 3, 5, 1, 0] rfl)
def f_X11_isAmong_t3 (x0 : Nat) (x1 : Int32) (x2 : Int64) (x4 : Int32) (σ1 : Hp) : Option ((Int32 × Hp) ⊕ (Int32 × Hp)) := if x1 ≤ x4 then ex (some ((0 : Int32), σ1)) else if (Int32.ofNat (ln x0)) ≤ x4 then ex (some ((0 : Int32), σ1)) else ck (inb x4 (ln x0) = true) (if (lg_cmp (hJ σ1 x0 x4.toNatClampNeg) x2) = 0 then ex (some ((1 : Int32), σ1)) else some (.inl ((x4 + 1), σ1)))
def f_X11_isAmong_s3 (x0 : Nat) (x1 : Int32) (x2 : Int64) (v : (Int32 × Hp)) : Option ((Int32 × Hp) ⊕ (Int32 × Hp)) := f_X11_isAmong_t3 x0 x1 x2 v.1 v.2
def f_X11_isAmong (k0 : Nat) (a1 : Int32) (a2 : Int64) (σ : Hp) : Option (Int32 × Hp) := iter (f_X11_isAmong_s3 k0 a1 a2) fuel ((0 : Int32), σ)
set_option maxHeartbeats 4000000 in
set_option maxRecDepth 100000 in
theorem c_X11_isAmong (l : Launch) (g : tG) (P : Nat → Nat) (σ : Hp) (k0 : Nat) (a1 : Int32) (a2 : Int64) (hk_k0 : ky k0 = 4) (sz : Nat) {r : Int32} {τ : Hp} (h : f_X11_isAmong k0 a1 a2 σ = some (r, τ)) : Met l yX11_isAmong (Cond.code yX11_isAmong cX11_isAmong 5 (some .boolean) :: tblG) ({ frames := 0, cells := 0, slots := 0, locals := 0 }) (va_Pc [.ref (gL g k0), .int a1, .long a2] (tPre g P σ sz)) (tQ (some (.int r)) (tPost g P τ (va_A (wC g P σ) sz)) (va_A (wC g P σ) sz)) 0 0 (va_A (wC g P σ) sz) := by
  refine T_start (B := fun A => tPost g P τ A) (by decide) (Nat.le_of_ble_eq_true rfl) ?_
  intro p e s m args below meth c ls0 A hx hb hml hr hown hlocks ht hnm hK hZ hA hB0 hl0
  have hL_3 : ∀ (x0 : Nat) (x1 : Int32) (x2 : Int64) (hk_x0 : ky x0 = 4) (n : Nat) (x4 : Int32) (σ1 : Hp) (H : Heap) (locs : List Loc) (ls : Array Slot), iter (f_X11_isAmong_s3 x0 x1 x2) n (x4, σ1) = some (r, τ) → tB g P σ1 A s.heap H locs → lv_has ls 5 [(0, .ref (gL g x0)), (1, .int x1), (2, .long x2), (4, .int x4)] → WQ p l e { frames := 0, cells := 0, slots := 0, locals := 0 } s m args below meth c g P A (some (.int r)) τ H locs (F0 m 3 ls []) := by
    intro x0 x1 x2 hk_x0 n
    induction n with
    | zero =>
      intro x4 σ1 H locs ls h hB hl
      exact (iter_0 h).elim
    | succ n ih1 =>
      intro x4 σ1 H locs ls h hB hl
      replace h := iter_eq h; obtain ⟨z1, hh1, hx1⟩ := h
      have h : f_X11_isAmong_t3 x0 x1 x2 x4 σ1 = some z1 := hh1
      clear hh1
      unfold f_X11_isAmong_t3 at h
      refine lv_iload hx hb dX11_isAmong_3 (lv_at hl 3 rfl) ?_
      refine lv_iload_n hx hb dX11_isAmong_5 rfl (lv_at hl 1 rfl) ?_
      refine lv_icmp_ge (tgt := 33) hx hb dX11_isAmong_6 (by decide) (fun c_1 => ?_) (fun c_1 => ?_)
      · replace h := itp h c_1
        replace h := ex_eq h; obtain ⟨b1, h, hz1⟩ := h
        subst hz1
        have hz1 := (itk_inr hx1).symm
        subst hz1
        refine lv_iconst (v := 0) hx hb dX11_isAmong_33 (by decide) ?_
        obtain ⟨rfl, rfl⟩ := Prod.mk.inj (Option.some.inj h)
        exact W.zret hx hb hr rfl (R_end hB) hB.2.2.2.2 dX11_isAmong_34
      · replace h := itn h c_1
        refine lv_iload hx hb dX11_isAmong_9 (lv_at hl 3 rfl) ?_
        refine lv_aload_n hx hb dX11_isAmong_11 rfl (lv_at hl 0 rfl) ?_
        refine R_alenJ hx hb (v := Int32.ofNat (ln x0)) hK hB hk_x0 rfl dX11_isAmong_12 ?_
        refine lv_icmp_ge (tgt := 33) hx hb dX11_isAmong_13 (by decide) (fun c_2 => ?_) (fun c_2 => ?_)
        · replace h := itp h c_2
          replace h := ex_eq h; obtain ⟨b1, h, hz1⟩ := h
          subst hz1
          have hz1 := (itk_inr hx1).symm
          subst hz1
          refine lv_iconst (v := 0) hx hb dX11_isAmong_33 (by decide) ?_
          obtain ⟨rfl, rfl⟩ := Prod.mk.inj (Option.some.inj h)
          exact W.zret hx hb hr rfl (R_end hB) hB.2.2.2.2 dX11_isAmong_34
        · replace h := itn h c_2
          refine lv_aload_n hx hb dX11_isAmong_16 rfl (lv_at hl 0 rfl) ?_
          refine lv_iload hx hb dX11_isAmong_17 (lv_at hl 3 rfl) ?_
          replace h := ck_eq h; obtain ⟨q_3, h⟩ := h
          refine R_lald hx hb hK hB hk_x0 (inb_eq q_3) dX11_isAmong_19 ?_
          refine lv_lload_n hx hb dX11_isAmong_20 rfl (lv_at hl 2 rfl) ?_
          refine W.lcmp hx hb dX11_isAmong_21 ?_
          refine lv_if_ne (tgt := 27) hx hb dX11_isAmong_22 (by decide) (fun c_4 => ?_) (fun c_4 => ?_)
          · replace h := itn h c_4
            refine lv_iinc (v := x4 + 1) (lv' := [(4, .int (x4 + 1)), (0, .ref (gL g x0)), (1, .int x1), (2, .long x2)]) hx hb dX11_isAmong_27 hl (k := 3) rfl rfl (by decide) rfl (fun ls hl => ?_)
            refine lv_goto (tgt := 3) hx hb dX11_isAmong_30 (by decide) ?_
            obtain rfl := Option.some.inj h
            exact ih1 (x4 + 1) σ1 H locs ls hx1 hB (lv_sub hl [1, 2, 3, 0] rfl)
          · replace h := itp h c_4
            replace h := ex_eq h; obtain ⟨b1, h, hz1⟩ := h
            subst hz1
            have hz1 := (itk_inr hx1).symm
            subst hz1
            refine lv_iconst (v := 1) hx hb dX11_isAmong_25 (by decide) ?_
            obtain ⟨rfl, rfl⟩ := Prod.mk.inj (Option.some.inj h)
            exact W.zret hx hb hr rfl (R_end hB) hB.2.2.2.2 dX11_isAmong_26
  suffices hmain : ∀ (H : Heap) (locs : List Loc) (ls : Array Slot), tB g P σ A s.heap H locs → lv_has ls 5 [(0, .ref (gL g k0)), (1, .int a1), (2, .long a2)] → WQ p l e { frames := 0, cells := 0, slots := 0, locals := 0 } s m args below meth c g P A (some (.int r)) τ H locs (F0 m 0 ls []) from hmain _ _ ls0 hB0 hl0
  intro H locs ls hB hl
  unfold f_X11_isAmong at h
  refine lv_iconst (v := 0) hx hb dX11_isAmong_0 (by decide) ?_
  refine lv_istore (lv' := [(4, .int (0 : Int32)), (0, .ref (gL g k0)), (1, .int a1), (2, .long a2)]) hx hb dX11_isAmong_1 hl (by decide) rfl (fun ls hl => ?_)
  exact hL_3 k0 a1 a2 hk_k0 fuel (0 : Int32) σ H locs ls h hB (lv_sub hl [1, 2, 3, 0] rfl)
def f_X11_meet_b37 (σ1 : Hp) : Option (Int64 × Hp) := b2 (f_X11_refuse (-6 : Int32) σ1) (fun r_12 s_13 => some (r_12.toInt64, s_13))
def f_X11_meet_b117 (σ1 : Hp) : Option (Int64 × Hp) := b2 (f_X11_refuse (-5 : Int32) σ1) (fun r_23 s_24 => some (r_23.toInt64, s_24))
def f_X11_meet_t64 (x6 : Nat) (x7 : Int32) (x8 : Int64) (x10 : Int32) (σ1 : Hp) : Option ((Int64 × Int32 × Hp) ⊕ (Int64 × Hp)) := if (200 : Int32) < x10 then ex (f_X11_meet_b117 σ1) else if (lg_cmp x8 (-1 : Int64)) = 0 then ex (f_X11_meet_b117 σ1) else b2 (f_X11_isAmong 33 x7 x8 σ1) (fun r_27 s_28 => if r_27 = 0 then ck (isLaw s_28 x6 = true) (b2 (v_onward x6 x8 1 s_28) (fun r_32 s_33 => some (.inl (r_32, (x10 + 1), s_33)))) else ex (some (x8, s_28)))
def f_X11_meet_s64 (x6 : Nat) (x7 : Int32) (v : (Int64 × Int32 × Hp)) : Option ((Int64 × Int32 × Hp) ⊕ (Int64 × Hp)) := f_X11_meet_t64 x6 x7 v.1 v.2.1 v.2.2
def f_X11_meet (a1 : Int32) (a2 : Int64) (a4 : Int64) (σ : Hp) : Option (Int64 × Hp) := b2 (f_X7_lawAt 1 a1 σ) (fun r_1 s_2 => cs r_1 (b2 (f_X11_refuse (-1 : Int32) s_2) (fun r_5 s_6 => some (r_5.toInt64, s_6))) (fun y_4 => b2 (f_X11_isNumber a2 s_2) (fun r_8 s_9 => if r_8 = 0 then f_X11_meet_b37 s_9 else b2 (f_X11_isNumber a4 s_9) (fun r_15 s_16 => if r_15 = 0 then f_X11_meet_b37 s_16 else b2 (f_X11_keepRun y_4 a4 (201 : Int32) s_16) (fun r_19 s_20 => iter (f_X11_meet_s64 y_4 r_19) fuel (a2, (0 : Int32), s_20))))))
set_option maxHeartbeats 4000000 in
set_option maxRecDepth 100000 in
theorem c_X11_meet (l : Launch) (g : tG) (P : Nat → Nat) (σ : Hp) (a1 : Int32) (a2 : Int64) (a4 : Int64) (sz : Nat) {r : Int64} {τ : Hp} (h : f_X11_meet a1 a2 a4 σ = some (r, τ)) : Met l yX11_meet (Cond.code yX11_meet cX11_meet 11 (some .long) :: tblG) ({ frames := 4, cells := 0, slots := 0, locals := 112 }) (va_Pc [.ref (gL g 0), .int a1, .long a2, .long a4] (tPre g P σ sz)) (tQ (some (.long r)) (tPost g P τ (va_A (wC g P σ) sz)) (va_A (wC g P σ) sz)) 0 0 (va_A (wC g P σ) sz) := by
  refine T_start (B := fun A => tPost g P τ A) (by decide) (Nat.le_of_ble_eq_true rfl) ?_
  intro p e s m args below meth c ls0 A hx hb hml hr hown hlocks ht hnm hK hZ hA hB0 hl0
  have hb_37 : ∀ (σ1 : Hp) (H : Heap) (locs : List Loc) (ls : Array Slot), f_X11_meet_b37 σ1 = some (r, τ) → tB g P σ1 A s.heap H locs → lv_has ls 11 [(0, .ref (gL g 0))] → WQ p l e { frames := 4, cells := 0, slots := 0, locals := 112 } s m args below meth c g P A (some (.long r)) τ H locs (F0 m 37 ls []) := by
    intro σ1 H locs ls h hB hl
    unfold f_X11_meet_b37 at h
    refine lv_aload_n hx hb dX11_meet_37 rfl (lv_at hl 0 rfl) ?_
    refine lv_bipush (v := -6) hx hb dX11_meet_38 (by decide) ?_
    replace h := b2_eq h; obtain ⟨r_12, s_13, hc_14, h⟩ := h
    refine R_call (rest := []) [.int r_12] (R_runV (n := 1) (As := [.int (-6 : Int32)]) ⟨hx, hb, hml, hown, ht⟩ (fun _ h9 => h9) hK hZ hA hB (c_X11_refuse l g P σ1 (-6 : Int32) H.size hc_14) (R_recv hK hB (by decide) (cell_0 rfl) rfl) tw178 tw175 tw177 pw1 tw1 ⟨by decide, by decide, by decide⟩ rfl rfl ⟨Nat.le_of_ble_eq_true rfl, Nat.le_of_ble_eq_true rfl⟩ rfl hl.1 rfl (Nat.le_of_ble_eq_true rfl) dX11_meet_40 ⟨Nat.zero_le _, Nat.zero_le _⟩) hB hA rfl (fun H locs hB => ?_)
    refine lv_i2l (v := r_12.toInt64) hx hb dX11_meet_43 rfl ?_
    obtain ⟨rfl, rfl⟩ := Prod.mk.inj (Option.some.inj h)
    exact W.lret hx hb hr (R_end hB) hB.2.2.2.2 dX11_meet_44
  have hb_117 : ∀ (σ1 : Hp) (H : Heap) (locs : List Loc) (ls : Array Slot), f_X11_meet_b117 σ1 = some (r, τ) → tB g P σ1 A s.heap H locs → lv_has ls 11 [(0, .ref (gL g 0))] → WQ p l e { frames := 4, cells := 0, slots := 0, locals := 112 } s m args below meth c g P A (some (.long r)) τ H locs (F0 m 117 ls []) := by
    intro σ1 H locs ls h hB hl
    unfold f_X11_meet_b117 at h
    refine lv_aload_n hx hb dX11_meet_117 rfl (lv_at hl 0 rfl) ?_
    refine lv_bipush (v := -5) hx hb dX11_meet_118 (by decide) ?_
    replace h := b2_eq h; obtain ⟨r_23, s_24, hc_25, h⟩ := h
    refine R_call (rest := []) [.int r_23] (R_runV (n := 1) (As := [.int (-5 : Int32)]) ⟨hx, hb, hml, hown, ht⟩ (fun _ h9 => h9) hK hZ hA hB (c_X11_refuse l g P σ1 (-5 : Int32) H.size hc_25) (R_recv hK hB (by decide) (cell_0 rfl) rfl) tw178 tw175 tw177 pw1 tw1 ⟨by decide, by decide, by decide⟩ rfl rfl ⟨Nat.le_of_ble_eq_true rfl, Nat.le_of_ble_eq_true rfl⟩ rfl hl.1 rfl (Nat.le_of_ble_eq_true rfl) dX11_meet_120 ⟨Nat.zero_le _, Nat.zero_le _⟩) hB hA rfl (fun H locs hB => ?_)
    refine lv_i2l (v := r_23.toInt64) hx hb dX11_meet_123 rfl ?_
    obtain ⟨rfl, rfl⟩ := Prod.mk.inj (Option.some.inj h)
    exact W.lret hx hb hr (R_end hB) hB.2.2.2.2 dX11_meet_124
  have hL_64 : ∀ (x6 : Nat) (x7 : Int32) (n : Nat) (x8 : Int64) (x10 : Int32) (σ1 : Hp) (H : Heap) (locs : List Loc) (ls : Array Slot), iter (f_X11_meet_s64 x6 x7) n (x8, x10, σ1) = some (r, τ) → tB g P σ1 A s.heap H locs → lv_has ls 11 [(0, .ref (gL g 0)), (6, .ref (P x6)), (7, .int x7), (8, .long x8), (10, .int x10)] → WQ p l e { frames := 4, cells := 0, slots := 0, locals := 112 } s m args below meth c g P A (some (.long r)) τ H locs (F0 m 64 ls []) := by
    intro x6 x7 n
    induction n with
    | zero =>
      intro x8 x10 σ1 H locs ls h hB hl
      exact (iter_0 h).elim
    | succ n ih1 =>
      intro x8 x10 σ1 H locs ls h hB hl
      replace h := iter_eq h; obtain ⟨z1, hh1, hx1⟩ := h
      have h : f_X11_meet_t64 x6 x7 x8 x10 σ1 = some z1 := hh1
      clear hh1
      unfold f_X11_meet_t64 at h
      refine lv_iload hx hb dX11_meet_64 (lv_at hl 4 rfl) ?_
      refine lv_sipush (v := 200) hx hb dX11_meet_66 (by decide) ?_
      refine lv_icmp_gt (tgt := 117) hx hb dX11_meet_69 (by decide) (fun c_22 => ?_) (fun c_22 => ?_)
      · replace h := itp h c_22
        replace h := ex_eq h; obtain ⟨b1, h, hz1⟩ := h
        subst hz1
        have hz1 := (itk_inr hx1).symm
        subst hz1
        exact hb_117 σ1 H locs ls h hB (lv_sub hl [0] rfl)
      · replace h := itn h c_22
        refine lv_lload hx hb dX11_meet_72 (lv_at hl 3 rfl) ?_
        refine lv_ldc2 (v := -1) hx hb hown (ht _ tw670) dX11_meet_74 ?_
        refine W.lcmp hx hb dX11_meet_77 ?_
        refine lv_if_eq (tgt := 117) hx hb dX11_meet_78 (by decide) (fun c_26 => ?_) (fun c_26 => ?_)
        · replace h := itp h c_26
          replace h := ex_eq h; obtain ⟨b1, h, hz1⟩ := h
          subst hz1
          have hz1 := (itk_inr hx1).symm
          subst hz1
          exact hb_117 σ1 H locs ls h hB (lv_sub hl [0] rfl)
        · replace h := itn h c_26
          refine lv_aload_n hx hb dX11_meet_81 rfl (lv_at hl 0 rfl) ?_
          refine R_get (v := .ref (gL g 33)) hx hb ht ui_X11 hown hK hB (by decide) (cell_0 rfl) rfl 8 (by decide) (ht _ tw138) (fun _ h9 => h9) rfl dX11_meet_82 ?_
          refine lv_iload hx hb dX11_meet_85 (lv_at hl 2 rfl) ?_
          refine lv_lload hx hb dX11_meet_87 (lv_at hl 3 rfl) ?_
          replace h := b2_eq h; obtain ⟨r_27, s_28, hc_29, h⟩ := h
          refine R_call (rest := []) [.int r_27] (R_runS (n := 3) (As := [.ref (gL g 33), .int x7, .long x8]) ⟨hx, hb, hml, hown, ht⟩ (fun _ h9 => h9) hK hZ hA hB (c_X11_isAmong l g P σ1 33 x7 x8 rfl H.size hc_29) tw716 tw714 tw715 tw1 ⟨by decide, by decide, by decide⟩ rfl rfl ⟨Nat.le_of_ble_eq_true rfl, Nat.le_of_ble_eq_true rfl⟩ rfl hl.1 rfl (Nat.le_of_ble_eq_true rfl) dX11_meet_89 ⟨Nat.zero_le _, Nat.zero_le _⟩) hB hA rfl (fun H locs hB => ?_)
          refine lv_if_eq (tgt := 98) hx hb dX11_meet_92 (by decide) (fun c_30 => ?_) (fun c_30 => ?_)
          · replace h := itp h c_30
            refine lv_aload hx hb dX11_meet_98 (lv_at hl 1 rfl) ?_
            refine lv_lload hx hb dX11_meet_100 (lv_at hl 3 rfl) ?_
            refine lv_aload_n hx hb dX11_meet_102 rfl (lv_at hl 0 rfl) ?_
            refine R_get (v := .ref (gL g 1)) hx hb ht ui_X11 hown hK hB (by decide) (cell_0 rfl) rfl 0 (by decide) (ht _ tw130) (fun _ h9 => h9) rfl dX11_meet_103 ?_
            replace h := ck_eq h; obtain ⟨q_31, h⟩ := h
            replace h := b2_eq h; obtain ⟨r_32, s_33, hc_34, h⟩ := h
            refine R_call (rest := []) [.long r_32] (dv_onward ⟨hx, hb, hml, hown, ht⟩ hK hZ hA hB q_31 rfl tw281 hc_34 (Nat.le_of_ble_eq_true rfl) (Nat.le_of_ble_eq_true rfl) hl.1 rfl (Nat.le_of_ble_eq_true rfl) dX11_meet_106 (Nat.zero_le _) (Nat.zero_le _)) hB hA rfl (fun H locs hB => ?_)
            refine lv_lstore (lv' := [(8, .long r_32), (0, .ref (gL g 0)), (6, .ref (P x6)), (7, .int x7), (10, .int x10)]) hx hb dX11_meet_109 hl (by decide) rfl (fun ls hl => ?_)
            refine lv_iinc (v := x10 + 1) (lv' := [(10, .int (x10 + 1)), (8, .long r_32), (0, .ref (gL g 0)), (6, .ref (P x6)), (7, .int x7)]) hx hb dX11_meet_111 hl (k := 4) rfl rfl (by decide) rfl (fun ls hl => ?_)
            refine lv_goto (tgt := 64) hx hb dX11_meet_114 (by decide) ?_
            obtain rfl := Option.some.inj h
            exact ih1 r_32 (x10 + 1) s_33 H locs ls hx1 hB (lv_sub hl [2, 3, 4, 1, 0] rfl)
          · replace h := itn h c_30
            replace h := ex_eq h; obtain ⟨b1, h, hz1⟩ := h
            subst hz1
            have hz1 := (itk_inr hx1).symm
            subst hz1
            refine lv_lload hx hb dX11_meet_95 (lv_at hl 3 rfl) ?_
            obtain ⟨rfl, rfl⟩ := Prod.mk.inj (Option.some.inj h)
            exact W.lret hx hb hr (R_end hB) hB.2.2.2.2 dX11_meet_97
  suffices hmain : ∀ (H : Heap) (locs : List Loc) (ls : Array Slot), tB g P σ A s.heap H locs → lv_has ls 11 [(0, .ref (gL g 0)), (1, .int a1), (2, .long a2), (4, .long a4)] → WQ p l e { frames := 4, cells := 0, slots := 0, locals := 112 } s m args below meth c g P A (some (.long r)) τ H locs (F0 m 0 ls []) from hmain _ _ ls0 hB0 hl0
  intro H locs ls hB hl
  unfold f_X11_meet at h
  refine lv_aload_n hx hb dX11_meet_0 rfl (lv_at hl 0 rfl) ?_
  refine R_get (v := .ref (gL g 1)) hx hb ht ui_X11 hown hK hB (by decide) (cell_0 rfl) rfl 0 (by decide) (ht _ tw130) (fun _ h9 => h9) rfl dX11_meet_1 ?_
  refine lv_iload_n hx hb dX11_meet_4 rfl (lv_at hl 1 rfl) ?_
  replace h := b2_eq h; obtain ⟨r_1, s_2, hc_3, h⟩ := h
  refine R_call (rest := []) [va_rf (Option.map P r_1)] (R_runV (n := 1) (As := [.int a1]) ⟨hx, hb, hml, hown, ht⟩ (fun _ h9 => h9) hK hZ hA hB (c_X7_lawAt l g P σ 1 a1 rfl H.size hc_3) (R_recv hK hB (by decide) (cell_1 rfl) rfl) tw228 tw225 tw226 tw227 tw2 ⟨by decide, by decide, by decide⟩ rfl rfl ⟨Nat.le_of_ble_eq_true rfl, Nat.le_of_ble_eq_true rfl⟩ rfl hl.1 rfl (Nat.le_of_ble_eq_true rfl) dX11_meet_5 ⟨Nat.zero_le _, Nat.zero_le _⟩) hB hA rfl (fun H locs hB => ?_)
  refine lv_astoreR (lv' := [(6, va_rf (Option.map P r_1)), (0, .ref (gL g 0)), (1, .int a1), (2, .long a2), (4, .long a4)]) hx hb dX11_meet_8 hl (by decide) rfl (fun ls hl => ?_)
  refine lv_aloadR hx hb dX11_meet_10 (lv_at hl 0 rfl) ?_
  rcases r_1 with _ | y_4
  · replace h := cs_n h
    have hl : lv_has ls 11 [(6, .null), (0, .ref (gL g 0)), (1, .int a1), (2, .long a2), (4, .long a4)] := hl
    refine lv_ifnonnullN hx hb dX11_meet_12 ?_
    refine lv_aload_n hx hb dX11_meet_15 rfl (lv_at hl 1 rfl) ?_
    refine lv_iconst (v := -1) hx hb dX11_meet_16 (by decide) ?_
    replace h := b2_eq h; obtain ⟨r_5, s_6, hc_7, h⟩ := h
    refine R_call (rest := []) [.int r_5] (R_runV (n := 1) (As := [.int (-1 : Int32)]) ⟨hx, hb, hml, hown, ht⟩ (fun _ h9 => h9) hK hZ hA hB (c_X11_refuse l g P s_2 (-1 : Int32) H.size hc_7) (R_recv hK hB (by decide) (cell_0 rfl) rfl) tw178 tw175 tw177 pw1 tw1 ⟨by decide, by decide, by decide⟩ rfl rfl ⟨Nat.le_of_ble_eq_true rfl, Nat.le_of_ble_eq_true rfl⟩ rfl hl.1 rfl (Nat.le_of_ble_eq_true rfl) dX11_meet_17 ⟨Nat.zero_le _, Nat.zero_le _⟩) hB hA rfl (fun H locs hB => ?_)
    refine lv_i2l (v := r_5.toInt64) hx hb dX11_meet_20 rfl ?_
    obtain ⟨rfl, rfl⟩ := Prod.mk.inj (Option.some.inj h)
    exact W.lret hx hb hr (R_end hB) hB.2.2.2.2 dX11_meet_21
  · replace h := cs_s h
    have hl : lv_has ls 11 [(6, .ref (P y_4)), (0, .ref (gL g 0)), (1, .int a1), (2, .long a2), (4, .long a4)] := hl
    refine lv_ifnonnull (tgt := 22) hx hb dX11_meet_12 (by decide) ?_
    refine lv_lload_n hx hb dX11_meet_22 rfl (lv_at hl 3 rfl) ?_
    replace h := b2_eq h; obtain ⟨r_8, s_9, hc_10, h⟩ := h
    refine R_call (rest := []) [.int r_8] (R_runS (n := 1) (As := [.long a2]) ⟨hx, hb, hml, hown, ht⟩ (fun _ h9 => h9) hK hZ hA hB (c_X11_isNumber l g P s_2 a2 H.size hc_10) tw622 tw620 tw621 tw1 ⟨by decide, by decide, by decide⟩ rfl rfl ⟨Nat.le_of_ble_eq_true rfl, Nat.le_of_ble_eq_true rfl⟩ rfl hl.1 rfl (Nat.le_of_ble_eq_true rfl) dX11_meet_23 ⟨Nat.zero_le _, Nat.zero_le _⟩) hB hA rfl (fun H locs hB => ?_)
    refine lv_if_eq (tgt := 37) hx hb dX11_meet_26 (by decide) (fun c_11 => ?_) (fun c_11 => ?_)
    · replace h := itp h c_11
      exact hb_37 s_9 H locs ls h hB (lv_sub hl [1] rfl)
    · replace h := itn h c_11
      refine lv_lload hx hb dX11_meet_29 (lv_at hl 4 rfl) ?_
      replace h := b2_eq h; obtain ⟨r_15, s_16, hc_17, h⟩ := h
      refine R_call (rest := []) [.int r_15] (R_runS (n := 1) (As := [.long a4]) ⟨hx, hb, hml, hown, ht⟩ (fun _ h9 => h9) hK hZ hA hB (c_X11_isNumber l g P s_9 a4 H.size hc_17) tw622 tw620 tw621 tw1 ⟨by decide, by decide, by decide⟩ rfl rfl ⟨Nat.le_of_ble_eq_true rfl, Nat.le_of_ble_eq_true rfl⟩ rfl hl.1 rfl (Nat.le_of_ble_eq_true rfl) dX11_meet_31 ⟨Nat.zero_le _, Nat.zero_le _⟩) hB hA rfl (fun H locs hB => ?_)
      refine lv_if_ne (tgt := 45) hx hb dX11_meet_34 (by decide) (fun c_18 => ?_) (fun c_18 => ?_)
      · replace h := itn h c_18
        refine lv_aload_n hx hb dX11_meet_45 rfl (lv_at hl 1 rfl) ?_
        refine lv_aload hx hb dX11_meet_46 (lv_at hl 0 rfl) ?_
        refine lv_lload hx hb dX11_meet_48 (lv_at hl 4 rfl) ?_
        refine lv_sipush (v := 201) hx hb dX11_meet_50 (by decide) ?_
        replace h := b2_eq h; obtain ⟨r_19, s_20, hc_21, h⟩ := h
        refine R_call (rest := []) [.int r_19] (R_runV (n := 3) (As := [.ref (P y_4), .long a4, .int (201 : Int32)]) ⟨hx, hb, hml, hown, ht⟩ (fun _ h9 => h9) hK hZ hA hB (c_X11_keepRun l g P s_16 y_4 a4 (201 : Int32) H.size hc_21) (R_recv hK hB (by decide) (cell_0 rfl) rfl) tw713 tw710 tw712 pw19 tw1 ⟨by decide, by decide, by decide⟩ rfl rfl ⟨Nat.le_of_ble_eq_true rfl, Nat.le_of_ble_eq_true rfl⟩ rfl hl.1 rfl (Nat.le_of_ble_eq_true rfl) dX11_meet_53 ⟨Nat.zero_le _, Nat.zero_le _⟩) hB hA rfl (fun H locs hB => ?_)
        refine lv_istore (lv' := [(7, .int r_19), (6, .ref (P y_4)), (0, .ref (gL g 0)), (1, .int a1), (2, .long a2), (4, .long a4)]) hx hb dX11_meet_56 hl (by decide) rfl (fun ls hl => ?_)
        refine lv_lload_n hx hb dX11_meet_58 rfl (lv_at hl 4 rfl) ?_
        refine lv_lstore (lv' := [(8, .long a2), (7, .int r_19), (6, .ref (P y_4)), (0, .ref (gL g 0)), (1, .int a1), (2, .long a2), (4, .long a4)]) hx hb dX11_meet_59 hl (by decide) rfl (fun ls hl => ?_)
        refine lv_iconst (v := 0) hx hb dX11_meet_61 (by decide) ?_
        refine lv_istore (lv' := [(10, .int (0 : Int32)), (8, .long a2), (7, .int r_19), (6, .ref (P y_4)), (0, .ref (gL g 0)), (1, .int a1), (2, .long a2), (4, .long a4)]) hx hb dX11_meet_62 hl (by decide) rfl (fun ls hl => ?_)
        exact hL_64 y_4 r_19 fuel a2 (0 : Int32) s_20 H locs ls h hB (lv_sub hl [4, 3, 2, 1, 0] rfl)
      · replace h := itp h c_18
        exact hb_37 s_16 H locs ls h hB (lv_sub hl [1] rfl)
def f_X11_beginner_b42 (x1 : Nat) (x2 : Int64) (x4 : Int32) (x5 : Int32) (x6 : Int32) (x7 : Int32) (σ1 : Hp) : Option ((Int32 × Int32 × Hp) ⊕ (Int32 × Hp)) := some (.inl (x6, (x7 + 1), σ1))
def f_X11_beginner_t6 (x1 : Nat) (x2 : Int64) (x4 : Int32) (x5 : Int32) (x6 : Int32) (x7 : Int32) (σ1 : Hp) : Option ((Int32 × Int32 × Hp) ⊕ (Int32 × Hp)) := if (10000 : Int32) ≤ x7 then ex (if x5 = (-1 : Int32) then some (x6, σ1) else b2 (f_X11_refuse (-5 : Int32) σ1) (fun r_3 s_4 => some (r_3, s_4))) else b2 (f_X11_behind x1 x7.toInt64 x4 σ1) (fun r_6 s_7 => if (lg_cmp r_6 x2) = 0 then if x6 = x5 then ex (some (x7, s_7)) else f_X11_beginner_b42 x1 x2 x4 x5 (x6 + 1) x7 s_7 else f_X11_beginner_b42 x1 x2 x4 x5 x6 x7 s_7)
def f_X11_beginner_s6 (x1 : Nat) (x2 : Int64) (x4 : Int32) (x5 : Int32) (v : (Int32 × Int32 × Hp)) : Option ((Int32 × Int32 × Hp) ⊕ (Int32 × Hp)) := f_X11_beginner_t6 x1 x2 x4 x5 v.1 v.2.1 v.2.2
def f_X11_beginner (j1 : Nat) (a2 : Int64) (a4 : Int32) (a5 : Int32) (σ : Hp) : Option (Int32 × Hp) := iter (f_X11_beginner_s6 j1 a2 a4 a5) fuel ((0 : Int32), (0 : Int32), σ)
set_option maxHeartbeats 4000000 in
set_option maxRecDepth 100000 in
theorem c_X11_beginner (l : Launch) (g : tG) (P : Nat → Nat) (σ : Hp) (j1 : Nat) (a2 : Int64) (a4 : Int32) (a5 : Int32) (sz : Nat) {r : Int32} {τ : Hp} (h : f_X11_beginner j1 a2 a4 a5 σ = some (r, τ)) : Met l yX11_beginner (Cond.code yX11_beginner cX11_beginner 8 (some .int) :: tblG) ({ frames := 4, cells := 0, slots := 0, locals := 112 }) (va_Pc [.ref (gL g 0), .ref (P j1), .long a2, .int a4, .int a5] (tPre g P σ sz)) (tQ (some (.int r)) (tPost g P τ (va_A (wC g P σ) sz)) (va_A (wC g P σ) sz)) 0 0 (va_A (wC g P σ) sz) := by
  refine T_start (B := fun A => tPost g P τ A) (by decide) (Nat.le_of_ble_eq_true rfl) ?_
  intro p e s m args below meth c ls0 A hx hb hml hr hown hlocks ht hnm hK hZ hA hB0 hl0
  have hL_6 : ∀ (x1 : Nat) (x2 : Int64) (x4 : Int32) (x5 : Int32) (n : Nat) (x6 : Int32) (x7 : Int32) (σ1 : Hp) (H : Heap) (locs : List Loc) (ls : Array Slot), iter (f_X11_beginner_s6 x1 x2 x4 x5) n (x6, x7, σ1) = some (r, τ) → tB g P σ1 A s.heap H locs → lv_has ls 8 [(0, .ref (gL g 0)), (1, .ref (P x1)), (2, .long x2), (4, .int x4), (5, .int x5), (6, .int x6), (7, .int x7)] → WQ p l e { frames := 4, cells := 0, slots := 0, locals := 112 } s m args below meth c g P A (some (.int r)) τ H locs (F0 m 6 ls []) := by
    intro x1 x2 x4 x5 n
    induction n with
    | zero =>
      intro x6 x7 σ1 H locs ls h hB hl
      exact (iter_0 h).elim
    | succ n ih1 =>
      intro x6 x7 σ1 H locs ls h hB hl
      replace h := iter_eq h; obtain ⟨z1, hh1, hx1⟩ := h
      have hb_42 : ∀ (x6 : Int32) (x7 : Int32) (σ1 : Hp) (H : Heap) (locs : List Loc) (ls : Array Slot), f_X11_beginner_b42 x1 x2 x4 x5 x6 x7 σ1 = some z1 → tB g P σ1 A s.heap H locs → lv_has ls 8 [(0, .ref (gL g 0)), (1, .ref (P x1)), (2, .long x2), (4, .int x4), (5, .int x5), (6, .int x6), (7, .int x7)] → WQ p l e { frames := 4, cells := 0, slots := 0, locals := 112 } s m args below meth c g P A (some (.int r)) τ H locs (F0 m 42 ls []) := by
        intro x6 x7 σ1 H locs ls h hB hl
        unfold f_X11_beginner_b42 at h
        refine lv_iinc (v := x7 + 1) (lv' := [(7, .int (x7 + 1)), (0, .ref (gL g 0)), (1, .ref (P x1)), (2, .long x2), (4, .int x4), (5, .int x5), (6, .int x6)]) hx hb dX11_beginner_42 hl (k := 6) rfl rfl (by decide) rfl (fun ls hl => ?_)
        refine lv_goto (tgt := 6) hx hb dX11_beginner_45 (by decide) ?_
        obtain rfl := Option.some.inj h
        exact ih1 x6 (x7 + 1) σ1 H locs ls hx1 hB (lv_sub hl [1, 2, 3, 4, 5, 6, 0] rfl)
      have h : f_X11_beginner_t6 x1 x2 x4 x5 x6 x7 σ1 = some z1 := hh1
      clear hh1
      unfold f_X11_beginner_t6 at h
      refine lv_iload hx hb dX11_beginner_6 (lv_at hl 6 rfl) ?_
      refine lv_sipush (v := 10000) hx hb dX11_beginner_8 (by decide) ?_
      refine lv_icmp_ge (tgt := 48) hx hb dX11_beginner_11 (by decide) (fun c_1 => ?_) (fun c_1 => ?_)
      · replace h := itp h c_1
        replace h := ex_eq h; obtain ⟨b1, h, hz1⟩ := h
        subst hz1
        have hz1 := (itk_inr hx1).symm
        subst hz1
        refine lv_iload hx hb dX11_beginner_48 (lv_at hl 4 rfl) ?_
        refine lv_iconst (v := -1) hx hb dX11_beginner_50 (by decide) ?_
        refine lv_icmp_ne (tgt := 59) hx hb dX11_beginner_51 (by decide) (fun c_2 => ?_) (fun c_2 => ?_)
        · replace h := itn h c_2
          refine lv_aload_n hx hb dX11_beginner_59 rfl (lv_at hl 0 rfl) ?_
          refine lv_bipush (v := -5) hx hb dX11_beginner_60 (by decide) ?_
          replace h := b2_eq h; obtain ⟨r_3, s_4, hc_5, h⟩ := h
          refine R_call (rest := []) [.int r_3] (R_runV (n := 1) (As := [.int (-5 : Int32)]) ⟨hx, hb, hml, hown, ht⟩ (fun _ h9 => h9) hK hZ hA hB (c_X11_refuse l g P σ1 (-5 : Int32) H.size hc_5) (R_recv hK hB (by decide) (cell_0 rfl) rfl) tw178 tw175 tw177 pw1 tw1 ⟨by decide, by decide, by decide⟩ rfl rfl ⟨Nat.le_of_ble_eq_true rfl, Nat.le_of_ble_eq_true rfl⟩ rfl hl.1 rfl (Nat.le_of_ble_eq_true rfl) dX11_beginner_62 ⟨Nat.zero_le _, Nat.zero_le _⟩) hB hA rfl (fun H locs hB => ?_)
          obtain ⟨rfl, rfl⟩ := Prod.mk.inj (Option.some.inj h)
          exact W.iret hx hb hr (R_end hB) hB.2.2.2.2 dX11_beginner_65
        · replace h := itp h c_2
          refine lv_iload hx hb dX11_beginner_54 (lv_at hl 5 rfl) ?_
          refine lv_goto (tgt := 65) hx hb dX11_beginner_56 (by decide) ?_
          obtain ⟨rfl, rfl⟩ := Prod.mk.inj (Option.some.inj h)
          exact W.iret hx hb hr (R_end hB) hB.2.2.2.2 dX11_beginner_65
      · replace h := itn h c_1
        refine lv_aload_n hx hb dX11_beginner_14 rfl (lv_at hl 0 rfl) ?_
        refine lv_aload_n hx hb dX11_beginner_15 rfl (lv_at hl 1 rfl) ?_
        refine lv_iload hx hb dX11_beginner_16 (lv_at hl 6 rfl) ?_
        refine lv_i2l (v := x7.toInt64) hx hb dX11_beginner_18 rfl ?_
        refine lv_iload hx hb dX11_beginner_19 (lv_at hl 3 rfl) ?_
        replace h := b2_eq h; obtain ⟨r_6, s_7, hc_8, h⟩ := h
        refine R_call (rest := []) [.long r_6] (R_runV (n := 3) (As := [.ref (P x1), .long x7.toInt64, .int x4]) ⟨hx, hb, hml, hown, ht⟩ (fun _ h9 => h9) hK hZ hA hB (c_X11_behind l g P σ1 x1 x7.toInt64 x4 H.size hc_8) (R_recv hK hB (by decide) (cell_0 rfl) rfl) tw678 tw675 tw677 pw15 tw1 ⟨by decide, by decide, by decide⟩ rfl rfl ⟨Nat.le_of_ble_eq_true rfl, Nat.le_of_ble_eq_true rfl⟩ rfl hl.1 rfl (Nat.le_of_ble_eq_true rfl) dX11_beginner_21 ⟨Nat.zero_le _, Nat.zero_le _⟩) hB hA rfl (fun H locs hB => ?_)
        refine lv_lload_n hx hb dX11_beginner_24 rfl (lv_at hl 2 rfl) ?_
        refine W.lcmp hx hb dX11_beginner_25 ?_
        refine lv_if_ne (tgt := 42) hx hb dX11_beginner_26 (by decide) (fun c_9 => ?_) (fun c_9 => ?_)
        · replace h := itn h c_9
          exact hb_42 x6 x7 s_7 H locs ls h hB (lv_sub hl [0, 1, 2, 3, 4, 5, 6] rfl)
        · replace h := itp h c_9
          refine lv_iload hx hb dX11_beginner_29 (lv_at hl 5 rfl) ?_
          refine lv_iload hx hb dX11_beginner_31 (lv_at hl 4 rfl) ?_
          refine lv_icmp_ne (tgt := 39) hx hb dX11_beginner_33 (by decide) (fun c_10 => ?_) (fun c_10 => ?_)
          · replace h := itn h c_10
            refine lv_iinc (v := x6 + 1) (lv' := [(6, .int (x6 + 1)), (0, .ref (gL g 0)), (1, .ref (P x1)), (2, .long x2), (4, .int x4), (5, .int x5), (7, .int x7)]) hx hb dX11_beginner_39 hl (k := 5) rfl rfl (by decide) rfl (fun ls hl => ?_)
            exact hb_42 (x6 + 1) x7 s_7 H locs ls h hB (lv_sub hl [1, 2, 3, 4, 5, 0, 6] rfl)
          · replace h := itp h c_10
            replace h := ex_eq h; obtain ⟨b1, h, hz1⟩ := h
            subst hz1
            have hz1 := (itk_inr hx1).symm
            subst hz1
            refine lv_iload hx hb dX11_beginner_36 (lv_at hl 6 rfl) ?_
            obtain ⟨rfl, rfl⟩ := Prod.mk.inj (Option.some.inj h)
            exact W.iret hx hb hr (R_end hB) hB.2.2.2.2 dX11_beginner_38
  suffices hmain : ∀ (H : Heap) (locs : List Loc) (ls : Array Slot), tB g P σ A s.heap H locs → lv_has ls 8 [(0, .ref (gL g 0)), (1, .ref (P j1)), (2, .long a2), (4, .int a4), (5, .int a5)] → WQ p l e { frames := 4, cells := 0, slots := 0, locals := 112 } s m args below meth c g P A (some (.int r)) τ H locs (F0 m 0 ls []) from hmain _ _ ls0 hB0 hl0
  intro H locs ls hB hl
  unfold f_X11_beginner at h
  refine lv_iconst (v := 0) hx hb dX11_beginner_0 (by decide) ?_
  refine lv_istore (lv' := [(6, .int (0 : Int32)), (0, .ref (gL g 0)), (1, .ref (P j1)), (2, .long a2), (4, .int a4), (5, .int a5)]) hx hb dX11_beginner_1 hl (by decide) rfl (fun ls hl => ?_)
  refine lv_iconst (v := 0) hx hb dX11_beginner_3 (by decide) ?_
  refine lv_istore (lv' := [(7, .int (0 : Int32)), (6, .int (0 : Int32)), (0, .ref (gL g 0)), (1, .ref (P j1)), (2, .long a2), (4, .int a4), (5, .int a5)]) hx hb dX11_beginner_4 hl (by decide) rfl (fun ls hl => ?_)
  exact hL_6 j1 a2 a4 a5 fuel (0 : Int32) (0 : Int32) σ H locs ls h hB (lv_sub hl [2, 3, 4, 5, 6, 1, 0] rfl)
def f_X11_source (a1 : Int32) (a2 : Int64) (a4 : Int32) (σ : Hp) : Option (Int32 × Hp) := b2 (f_X7_lawAt 1 a1 σ) (fun r_1 s_2 => cs r_1 (b2 (f_X11_refuse (-1 : Int32) s_2) (fun r_5 s_6 => some (r_5, s_6))) (fun y_4 => if (-1 : Int32) ≤ a4 then b2 (f_X11_isNumber a2 s_2) (fun r_9 s_10 => if r_9 = 0 then b2 (f_X11_refuse (-6 : Int32) s_10) (fun r_16 s_17 => some (r_16, s_17)) else b2 (f_X11_beginner y_4 a2 (1 : Int32) a4 s_10) (fun r_13 s_14 => some (r_13, s_14))) else b2 (f_X11_refuse (-5 : Int32) s_2) (fun r_19 s_20 => some (r_19, s_20))))
set_option maxHeartbeats 4000000 in
set_option maxRecDepth 100000 in
theorem c_X11_source (l : Launch) (g : tG) (P : Nat → Nat) (σ : Hp) (a1 : Int32) (a2 : Int64) (a4 : Int32) (sz : Nat) {r : Int32} {τ : Hp} (h : f_X11_source a1 a2 a4 σ = some (r, τ)) : Met l yX11_source (Cond.code yX11_source cX11_source 6 (some .int) :: tblG) ({ frames := 5, cells := 0, slots := 0, locals := 139 }) (va_Pc [.ref (gL g 0), .int a1, .long a2, .int a4] (tPre g P σ sz)) (tQ (some (.int r)) (tPost g P τ (va_A (wC g P σ) sz)) (va_A (wC g P σ) sz)) 0 0 (va_A (wC g P σ) sz) := by
  refine T_start (B := fun A => tPost g P τ A) (by decide) (Nat.le_of_ble_eq_true rfl) ?_
  intro p e s m args below meth c ls0 A hx hb hml hr hown hlocks ht hnm hK hZ hA hB0 hl0
  suffices hmain : ∀ (H : Heap) (locs : List Loc) (ls : Array Slot), tB g P σ A s.heap H locs → lv_has ls 6 [(0, .ref (gL g 0)), (1, .int a1), (2, .long a2), (4, .int a4)] → WQ p l e { frames := 5, cells := 0, slots := 0, locals := 139 } s m args below meth c g P A (some (.int r)) τ H locs (F0 m 0 ls []) from hmain _ _ ls0 hB0 hl0
  intro H locs ls hB hl
  unfold f_X11_source at h
  refine lv_aload_n hx hb dX11_source_0 rfl (lv_at hl 0 rfl) ?_
  refine R_get (v := .ref (gL g 1)) hx hb ht ui_X11 hown hK hB (by decide) (cell_0 rfl) rfl 0 (by decide) (ht _ tw130) (fun _ h9 => h9) rfl dX11_source_1 ?_
  refine lv_iload_n hx hb dX11_source_4 rfl (lv_at hl 1 rfl) ?_
  replace h := b2_eq h; obtain ⟨r_1, s_2, hc_3, h⟩ := h
  refine R_call (rest := []) [va_rf (Option.map P r_1)] (R_runV (n := 1) (As := [.int a1]) ⟨hx, hb, hml, hown, ht⟩ (fun _ h9 => h9) hK hZ hA hB (c_X7_lawAt l g P σ 1 a1 rfl H.size hc_3) (R_recv hK hB (by decide) (cell_1 rfl) rfl) tw228 tw225 tw226 tw227 tw2 ⟨by decide, by decide, by decide⟩ rfl rfl ⟨Nat.le_of_ble_eq_true rfl, Nat.le_of_ble_eq_true rfl⟩ rfl hl.1 rfl (Nat.le_of_ble_eq_true rfl) dX11_source_5 ⟨Nat.zero_le _, Nat.zero_le _⟩) hB hA rfl (fun H locs hB => ?_)
  refine lv_astoreR (lv' := [(5, va_rf (Option.map P r_1)), (0, .ref (gL g 0)), (1, .int a1), (2, .long a2), (4, .int a4)]) hx hb dX11_source_8 hl (by decide) rfl (fun ls hl => ?_)
  refine lv_aloadR hx hb dX11_source_10 (lv_at hl 0 rfl) ?_
  rcases r_1 with _ | y_4
  · replace h := cs_n h
    have hl : lv_has ls 6 [(5, .null), (0, .ref (gL g 0)), (1, .int a1), (2, .long a2), (4, .int a4)] := hl
    refine lv_ifnonnullN hx hb dX11_source_12 ?_
    refine lv_aload_n hx hb dX11_source_15 rfl (lv_at hl 1 rfl) ?_
    refine lv_iconst (v := -1) hx hb dX11_source_16 (by decide) ?_
    replace h := b2_eq h; obtain ⟨r_5, s_6, hc_7, h⟩ := h
    refine R_call (rest := []) [.int r_5] (R_runV (n := 1) (As := [.int (-1 : Int32)]) ⟨hx, hb, hml, hown, ht⟩ (fun _ h9 => h9) hK hZ hA hB (c_X11_refuse l g P s_2 (-1 : Int32) H.size hc_7) (R_recv hK hB (by decide) (cell_0 rfl) rfl) tw178 tw175 tw177 pw1 tw1 ⟨by decide, by decide, by decide⟩ rfl rfl ⟨Nat.le_of_ble_eq_true rfl, Nat.le_of_ble_eq_true rfl⟩ rfl hl.1 rfl (Nat.le_of_ble_eq_true rfl) dX11_source_17 ⟨Nat.zero_le _, Nat.zero_le _⟩) hB hA rfl (fun H locs hB => ?_)
    obtain ⟨rfl, rfl⟩ := Prod.mk.inj (Option.some.inj h)
    exact W.iret hx hb hr (R_end hB) hB.2.2.2.2 dX11_source_20
  · replace h := cs_s h
    have hl : lv_has ls 6 [(5, .ref (P y_4)), (0, .ref (gL g 0)), (1, .int a1), (2, .long a2), (4, .int a4)] := hl
    refine lv_ifnonnull (tgt := 21) hx hb dX11_source_12 (by decide) ?_
    refine lv_iload hx hb dX11_source_21 (lv_at hl 4 rfl) ?_
    refine lv_iconst (v := -1) hx hb dX11_source_23 (by decide) ?_
    refine lv_icmp_ge (tgt := 34) hx hb dX11_source_24 (by decide) (fun c_8 => ?_) (fun c_8 => ?_)
    · replace h := itp h c_8
      refine lv_lload_n hx hb dX11_source_34 rfl (lv_at hl 3 rfl) ?_
      replace h := b2_eq h; obtain ⟨r_9, s_10, hc_11, h⟩ := h
      refine R_call (rest := []) [.int r_9] (R_runS (n := 1) (As := [.long a2]) ⟨hx, hb, hml, hown, ht⟩ (fun _ h9 => h9) hK hZ hA hB (c_X11_isNumber l g P s_2 a2 H.size hc_11) tw622 tw620 tw621 tw1 ⟨by decide, by decide, by decide⟩ rfl rfl ⟨Nat.le_of_ble_eq_true rfl, Nat.le_of_ble_eq_true rfl⟩ rfl hl.1 rfl (Nat.le_of_ble_eq_true rfl) dX11_source_35 ⟨Nat.zero_le _, Nat.zero_le _⟩) hB hA rfl (fun H locs hB => ?_)
      refine lv_if_ne (tgt := 48) hx hb dX11_source_38 (by decide) (fun c_12 => ?_) (fun c_12 => ?_)
      · replace h := itn h c_12
        refine lv_aload_n hx hb dX11_source_48 rfl (lv_at hl 1 rfl) ?_
        refine lv_aload hx hb dX11_source_49 (lv_at hl 0 rfl) ?_
        refine lv_lload_n hx hb dX11_source_51 rfl (lv_at hl 3 rfl) ?_
        refine lv_iconst (v := 1) hx hb dX11_source_52 (by decide) ?_
        refine lv_iload hx hb dX11_source_53 (lv_at hl 4 rfl) ?_
        replace h := b2_eq h; obtain ⟨r_13, s_14, hc_15, h⟩ := h
        refine R_call (rest := []) [.int r_13] (R_runV (n := 4) (As := [.ref (P y_4), .long a2, .int (1 : Int32), .int a4]) ⟨hx, hb, hml, hown, ht⟩ (fun _ h9 => h9) hK hZ hA hB (c_X11_beginner l g P s_10 y_4 a2 (1 : Int32) a4 H.size hc_15) (R_recv hK hB (by decide) (cell_0 rfl) rfl) tw724 tw721 tw723 pw20 tw1 ⟨by decide, by decide, by decide⟩ rfl rfl ⟨Nat.le_of_ble_eq_true rfl, Nat.le_of_ble_eq_true rfl⟩ rfl hl.1 rfl (Nat.le_of_ble_eq_true rfl) dX11_source_55 ⟨Nat.zero_le _, Nat.zero_le _⟩) hB hA rfl (fun H locs hB => ?_)
        obtain ⟨rfl, rfl⟩ := Prod.mk.inj (Option.some.inj h)
        exact W.iret hx hb hr (R_end hB) hB.2.2.2.2 dX11_source_58
      · replace h := itp h c_12
        refine lv_aload_n hx hb dX11_source_41 rfl (lv_at hl 1 rfl) ?_
        refine lv_bipush (v := -6) hx hb dX11_source_42 (by decide) ?_
        replace h := b2_eq h; obtain ⟨r_16, s_17, hc_18, h⟩ := h
        refine R_call (rest := []) [.int r_16] (R_runV (n := 1) (As := [.int (-6 : Int32)]) ⟨hx, hb, hml, hown, ht⟩ (fun _ h9 => h9) hK hZ hA hB (c_X11_refuse l g P s_10 (-6 : Int32) H.size hc_18) (R_recv hK hB (by decide) (cell_0 rfl) rfl) tw178 tw175 tw177 pw1 tw1 ⟨by decide, by decide, by decide⟩ rfl rfl ⟨Nat.le_of_ble_eq_true rfl, Nat.le_of_ble_eq_true rfl⟩ rfl hl.1 rfl (Nat.le_of_ble_eq_true rfl) dX11_source_44 ⟨Nat.zero_le _, Nat.zero_le _⟩) hB hA rfl (fun H locs hB => ?_)
        obtain ⟨rfl, rfl⟩ := Prod.mk.inj (Option.some.inj h)
        exact W.iret hx hb hr (R_end hB) hB.2.2.2.2 dX11_source_47
    · replace h := itn h c_8
      refine lv_aload_n hx hb dX11_source_27 rfl (lv_at hl 1 rfl) ?_
      refine lv_bipush (v := -5) hx hb dX11_source_28 (by decide) ?_
      replace h := b2_eq h; obtain ⟨r_19, s_20, hc_21, h⟩ := h
      refine R_call (rest := []) [.int r_19] (R_runV (n := 1) (As := [.int (-5 : Int32)]) ⟨hx, hb, hml, hown, ht⟩ (fun _ h9 => h9) hK hZ hA hB (c_X11_refuse l g P s_2 (-5 : Int32) H.size hc_21) (R_recv hK hB (by decide) (cell_0 rfl) rfl) tw178 tw175 tw177 pw1 tw1 ⟨by decide, by decide, by decide⟩ rfl rfl ⟨Nat.le_of_ble_eq_true rfl, Nat.le_of_ble_eq_true rfl⟩ rfl hl.1 rfl (Nat.le_of_ble_eq_true rfl) dX11_source_30 ⟨Nat.zero_le _, Nat.zero_le _⟩) hB hA rfl (fun H locs hB => ?_)
      obtain ⟨rfl, rfl⟩ := Prod.mk.inj (Option.some.inj h)
      exact W.iret hx hb hr (R_end hB) hB.2.2.2.2 dX11_source_33
def f_X11_began_b54 (σ1 : Hp) : Option (Int32 × Hp) := b2 (f_X11_refuse (-6 : Int32) σ1) (fun r_13 s_14 => some (r_13, s_14))
def f_X11_began (a1 : Int32) (a2 : Int64) (a4 : Int32) (a5 : Int32) (σ : Hp) : Option (Int32 × Hp) := b2 (f_X7_lawAt 1 a1 σ) (fun r_1 s_2 => cs r_1 (b2 (f_X11_refuse (-1 : Int32) s_2) (fun r_5 s_6 => some (r_5, s_6))) (fun y_4 => if (-1 : Int32) ≤ a5 then b2 (f_X11_isNumber a2 s_2) (fun r_9 s_10 => if r_9 = 0 then f_X11_began_b54 s_10 else if a4 < (1 : Int32) then f_X11_began_b54 s_10 else if a4 ≤ (20 : Int32) then b2 (f_X11_beginner y_4 a2 a4 a5 s_10) (fun r_18 s_19 => some (r_18, s_19)) else f_X11_began_b54 s_10) else b2 (f_X11_refuse (-5 : Int32) s_2) (fun r_21 s_22 => some (r_21, s_22))))
set_option maxHeartbeats 4000000 in
set_option maxRecDepth 100000 in
theorem c_X11_began (l : Launch) (g : tG) (P : Nat → Nat) (σ : Hp) (a1 : Int32) (a2 : Int64) (a4 : Int32) (a5 : Int32) (sz : Nat) {r : Int32} {τ : Hp} (h : f_X11_began a1 a2 a4 a5 σ = some (r, τ)) : Met l yX11_began (Cond.code yX11_began cX11_began 7 (some .int) :: tblG) ({ frames := 5, cells := 0, slots := 0, locals := 139 }) (va_Pc [.ref (gL g 0), .int a1, .long a2, .int a4, .int a5] (tPre g P σ sz)) (tQ (some (.int r)) (tPost g P τ (va_A (wC g P σ) sz)) (va_A (wC g P σ) sz)) 0 0 (va_A (wC g P σ) sz) := by
  refine T_start (B := fun A => tPost g P τ A) (by decide) (Nat.le_of_ble_eq_true rfl) ?_
  intro p e s m args below meth c ls0 A hx hb hml hr hown hlocks ht hnm hK hZ hA hB0 hl0
  have hb_54 : ∀ (σ1 : Hp) (H : Heap) (locs : List Loc) (ls : Array Slot), f_X11_began_b54 σ1 = some (r, τ) → tB g P σ1 A s.heap H locs → lv_has ls 7 [(0, .ref (gL g 0))] → WQ p l e { frames := 5, cells := 0, slots := 0, locals := 139 } s m args below meth c g P A (some (.int r)) τ H locs (F0 m 54 ls []) := by
    intro σ1 H locs ls h hB hl
    unfold f_X11_began_b54 at h
    refine lv_aload_n hx hb dX11_began_54 rfl (lv_at hl 0 rfl) ?_
    refine lv_bipush (v := -6) hx hb dX11_began_55 (by decide) ?_
    replace h := b2_eq h; obtain ⟨r_13, s_14, hc_15, h⟩ := h
    refine R_call (rest := []) [.int r_13] (R_runV (n := 1) (As := [.int (-6 : Int32)]) ⟨hx, hb, hml, hown, ht⟩ (fun _ h9 => h9) hK hZ hA hB (c_X11_refuse l g P σ1 (-6 : Int32) H.size hc_15) (R_recv hK hB (by decide) (cell_0 rfl) rfl) tw178 tw175 tw177 pw1 tw1 ⟨by decide, by decide, by decide⟩ rfl rfl ⟨Nat.le_of_ble_eq_true rfl, Nat.le_of_ble_eq_true rfl⟩ rfl hl.1 rfl (Nat.le_of_ble_eq_true rfl) dX11_began_57 ⟨Nat.zero_le _, Nat.zero_le _⟩) hB hA rfl (fun H locs hB => ?_)
    obtain ⟨rfl, rfl⟩ := Prod.mk.inj (Option.some.inj h)
    exact W.iret hx hb hr (R_end hB) hB.2.2.2.2 dX11_began_60
  suffices hmain : ∀ (H : Heap) (locs : List Loc) (ls : Array Slot), tB g P σ A s.heap H locs → lv_has ls 7 [(0, .ref (gL g 0)), (1, .int a1), (2, .long a2), (4, .int a4), (5, .int a5)] → WQ p l e { frames := 5, cells := 0, slots := 0, locals := 139 } s m args below meth c g P A (some (.int r)) τ H locs (F0 m 0 ls []) from hmain _ _ ls0 hB0 hl0
  intro H locs ls hB hl
  unfold f_X11_began at h
  refine lv_aload_n hx hb dX11_began_0 rfl (lv_at hl 0 rfl) ?_
  refine R_get (v := .ref (gL g 1)) hx hb ht ui_X11 hown hK hB (by decide) (cell_0 rfl) rfl 0 (by decide) (ht _ tw130) (fun _ h9 => h9) rfl dX11_began_1 ?_
  refine lv_iload_n hx hb dX11_began_4 rfl (lv_at hl 1 rfl) ?_
  replace h := b2_eq h; obtain ⟨r_1, s_2, hc_3, h⟩ := h
  refine R_call (rest := []) [va_rf (Option.map P r_1)] (R_runV (n := 1) (As := [.int a1]) ⟨hx, hb, hml, hown, ht⟩ (fun _ h9 => h9) hK hZ hA hB (c_X7_lawAt l g P σ 1 a1 rfl H.size hc_3) (R_recv hK hB (by decide) (cell_1 rfl) rfl) tw228 tw225 tw226 tw227 tw2 ⟨by decide, by decide, by decide⟩ rfl rfl ⟨Nat.le_of_ble_eq_true rfl, Nat.le_of_ble_eq_true rfl⟩ rfl hl.1 rfl (Nat.le_of_ble_eq_true rfl) dX11_began_5 ⟨Nat.zero_le _, Nat.zero_le _⟩) hB hA rfl (fun H locs hB => ?_)
  refine lv_astoreR (lv' := [(6, va_rf (Option.map P r_1)), (0, .ref (gL g 0)), (1, .int a1), (2, .long a2), (4, .int a4), (5, .int a5)]) hx hb dX11_began_8 hl (by decide) rfl (fun ls hl => ?_)
  refine lv_aloadR hx hb dX11_began_10 (lv_at hl 0 rfl) ?_
  rcases r_1 with _ | y_4
  · replace h := cs_n h
    have hl : lv_has ls 7 [(6, .null), (0, .ref (gL g 0)), (1, .int a1), (2, .long a2), (4, .int a4), (5, .int a5)] := hl
    refine lv_ifnonnullN hx hb dX11_began_12 ?_
    refine lv_aload_n hx hb dX11_began_15 rfl (lv_at hl 1 rfl) ?_
    refine lv_iconst (v := -1) hx hb dX11_began_16 (by decide) ?_
    replace h := b2_eq h; obtain ⟨r_5, s_6, hc_7, h⟩ := h
    refine R_call (rest := []) [.int r_5] (R_runV (n := 1) (As := [.int (-1 : Int32)]) ⟨hx, hb, hml, hown, ht⟩ (fun _ h9 => h9) hK hZ hA hB (c_X11_refuse l g P s_2 (-1 : Int32) H.size hc_7) (R_recv hK hB (by decide) (cell_0 rfl) rfl) tw178 tw175 tw177 pw1 tw1 ⟨by decide, by decide, by decide⟩ rfl rfl ⟨Nat.le_of_ble_eq_true rfl, Nat.le_of_ble_eq_true rfl⟩ rfl hl.1 rfl (Nat.le_of_ble_eq_true rfl) dX11_began_17 ⟨Nat.zero_le _, Nat.zero_le _⟩) hB hA rfl (fun H locs hB => ?_)
    obtain ⟨rfl, rfl⟩ := Prod.mk.inj (Option.some.inj h)
    exact W.iret hx hb hr (R_end hB) hB.2.2.2.2 dX11_began_20
  · replace h := cs_s h
    have hl : lv_has ls 7 [(6, .ref (P y_4)), (0, .ref (gL g 0)), (1, .int a1), (2, .long a2), (4, .int a4), (5, .int a5)] := hl
    refine lv_ifnonnull (tgt := 21) hx hb dX11_began_12 (by decide) ?_
    refine lv_iload hx hb dX11_began_21 (lv_at hl 5 rfl) ?_
    refine lv_iconst (v := -1) hx hb dX11_began_23 (by decide) ?_
    refine lv_icmp_ge (tgt := 34) hx hb dX11_began_24 (by decide) (fun c_8 => ?_) (fun c_8 => ?_)
    · replace h := itp h c_8
      refine lv_lload_n hx hb dX11_began_34 rfl (lv_at hl 3 rfl) ?_
      replace h := b2_eq h; obtain ⟨r_9, s_10, hc_11, h⟩ := h
      refine R_call (rest := []) [.int r_9] (R_runS (n := 1) (As := [.long a2]) ⟨hx, hb, hml, hown, ht⟩ (fun _ h9 => h9) hK hZ hA hB (c_X11_isNumber l g P s_2 a2 H.size hc_11) tw622 tw620 tw621 tw1 ⟨by decide, by decide, by decide⟩ rfl rfl ⟨Nat.le_of_ble_eq_true rfl, Nat.le_of_ble_eq_true rfl⟩ rfl hl.1 rfl (Nat.le_of_ble_eq_true rfl) dX11_began_35 ⟨Nat.zero_le _, Nat.zero_le _⟩) hB hA rfl (fun H locs hB => ?_)
      refine lv_if_eq (tgt := 54) hx hb dX11_began_38 (by decide) (fun c_12 => ?_) (fun c_12 => ?_)
      · replace h := itp h c_12
        exact hb_54 s_10 H locs ls h hB (lv_sub hl [1] rfl)
      · replace h := itn h c_12
        refine lv_iload hx hb dX11_began_41 (lv_at hl 4 rfl) ?_
        refine lv_iconst (v := 1) hx hb dX11_began_43 (by decide) ?_
        refine lv_icmp_lt (tgt := 54) hx hb dX11_began_44 (by decide) (fun c_16 => ?_) (fun c_16 => ?_)
        · replace h := itp h c_16
          exact hb_54 s_10 H locs ls h hB (lv_sub hl [1] rfl)
        · replace h := itn h c_16
          refine lv_iload hx hb dX11_began_47 (lv_at hl 4 rfl) ?_
          refine lv_bipush (v := 20) hx hb dX11_began_49 (by decide) ?_
          refine lv_icmp_le (tgt := 61) hx hb dX11_began_51 (by decide) (fun c_17 => ?_) (fun c_17 => ?_)
          · replace h := itp h c_17
            refine lv_aload_n hx hb dX11_began_61 rfl (lv_at hl 1 rfl) ?_
            refine lv_aload hx hb dX11_began_62 (lv_at hl 0 rfl) ?_
            refine lv_lload_n hx hb dX11_began_64 rfl (lv_at hl 3 rfl) ?_
            refine lv_iload hx hb dX11_began_65 (lv_at hl 4 rfl) ?_
            refine lv_iload hx hb dX11_began_67 (lv_at hl 5 rfl) ?_
            replace h := b2_eq h; obtain ⟨r_18, s_19, hc_20, h⟩ := h
            refine R_call (rest := []) [.int r_18] (R_runV (n := 4) (As := [.ref (P y_4), .long a2, .int a4, .int a5]) ⟨hx, hb, hml, hown, ht⟩ (fun _ h9 => h9) hK hZ hA hB (c_X11_beginner l g P s_10 y_4 a2 a4 a5 H.size hc_20) (R_recv hK hB (by decide) (cell_0 rfl) rfl) tw724 tw721 tw723 pw20 tw1 ⟨by decide, by decide, by decide⟩ rfl rfl ⟨Nat.le_of_ble_eq_true rfl, Nat.le_of_ble_eq_true rfl⟩ rfl hl.1 rfl (Nat.le_of_ble_eq_true rfl) dX11_began_69 ⟨Nat.zero_le _, Nat.zero_le _⟩) hB hA rfl (fun H locs hB => ?_)
            obtain ⟨rfl, rfl⟩ := Prod.mk.inj (Option.some.inj h)
            exact W.iret hx hb hr (R_end hB) hB.2.2.2.2 dX11_began_72
          · replace h := itn h c_17
            exact hb_54 s_10 H locs ls h hB (lv_sub hl [1] rfl)
    · replace h := itn h c_8
      refine lv_aload_n hx hb dX11_began_27 rfl (lv_at hl 1 rfl) ?_
      refine lv_bipush (v := -5) hx hb dX11_began_28 (by decide) ?_
      replace h := b2_eq h; obtain ⟨r_21, s_22, hc_23, h⟩ := h
      refine R_call (rest := []) [.int r_21] (R_runV (n := 1) (As := [.int (-5 : Int32)]) ⟨hx, hb, hml, hown, ht⟩ (fun _ h9 => h9) hK hZ hA hB (c_X11_refuse l g P s_2 (-5 : Int32) H.size hc_23) (R_recv hK hB (by decide) (cell_0 rfl) rfl) tw178 tw175 tw177 pw1 tw1 ⟨by decide, by decide, by decide⟩ rfl rfl ⟨Nat.le_of_ble_eq_true rfl, Nat.le_of_ble_eq_true rfl⟩ rfl hl.1 rfl (Nat.le_of_ble_eq_true rfl) dX11_began_30 ⟨Nat.zero_le _, Nat.zero_le _⟩) hB hA rfl (fun H locs hB => ?_)
      obtain ⟨rfl, rfl⟩ := Prod.mk.inj (Option.some.inj h)
      exact W.iret hx hb hr (R_end hB) hB.2.2.2.2 dX11_began_33
def f_X11_mark (a1 : Int64) (σ : Hp) : Option (Unit × Hp) := if (lg_cmp a1 (0 : Int64)) < 0 then some ((), σ) else if 0 ≤ (lg_cmp a1 (10000 : Int64)) then some ((), σ) else if 0 ≤ (lg_cmp (a1 / (64 : Int64)) ((157 : Int32).toInt64)) then some ((), σ) else ck (inb ((a1 / (64 : Int64)).toInt32) 157 = true) (some ((), (sJ σ 36 ((a1 / (64 : Int64)).toInt32).toNatClampNeg ((hJ σ 36 ((a1 / (64 : Int64)).toInt32).toNatClampNeg) ||| ((1 : Int64) <<< (((a1 - a1 / (64 : Int64) * (64 : Int64)).toInt32).toInt64 &&& 63))))))
set_option maxHeartbeats 4000000 in
set_option maxRecDepth 100000 in
theorem c_X11_mark (l : Launch) (g : tG) (P : Nat → Nat) (σ : Hp) (a1 : Int64) (sz : Nat) {r : Unit} {τ : Hp} (h : f_X11_mark a1 σ = some (r, τ)) : Met l yX11_mark (Cond.code yX11_mark cX11_mark 3 none :: tblG) ({ frames := 0, cells := 0, slots := 0, locals := 0 }) (va_Pc [.ref (gL g 0), .long a1] (tPre g P σ sz)) (tQ none (tPost g P τ (va_A (wC g P σ) sz)) (va_A (wC g P σ) sz)) 0 0 (va_A (wC g P σ) sz) := by
  refine T_start (B := fun A => tPost g P τ A) (by decide) (Nat.le_of_ble_eq_true rfl) ?_
  intro p e s m args below meth c ls0 A hx hb hml hr hown hlocks ht hnm hK hZ hA hB0 hl0
  suffices hmain : ∀ (H : Heap) (locs : List Loc) (ls : Array Slot), tB g P σ A s.heap H locs → lv_has ls 3 [(0, .ref (gL g 0)), (1, .long a1)] → WQ p l e { frames := 0, cells := 0, slots := 0, locals := 0 } s m args below meth c g P A none τ H locs (F0 m 0 ls []) from hmain _ _ ls0 hB0 hl0
  intro H locs ls hB hl
  unfold f_X11_mark at h
  refine lv_lload_n hx hb dX11_mark_0 rfl (lv_at hl 1 rfl) ?_
  refine lv_lconst (v := 0) hx hb dX11_mark_1 (by decide) ?_
  refine W.lcmp hx hb dX11_mark_2 ?_
  refine lv_if_lt (tgt := 51) hx hb dX11_mark_3 (by decide) (fun c_4 => ?_) (fun c_4 => ?_)
  · replace h := itp h c_4
    obtain ⟨rfl, rfl⟩ := Prod.mk.inj (Option.some.inj h)
    exact W.vret hx hb hr (R_end hB) hB.2.2.2.2 dX11_mark_51
  · replace h := itn h c_4
    refine lv_lload_n hx hb dX11_mark_6 rfl (lv_at hl 1 rfl) ?_
    refine lv_ldc2 (v := 10000) hx hb hown (ht _ tw738) dX11_mark_7 ?_
    refine W.lcmp hx hb dX11_mark_10 ?_
    refine lv_if_ge (tgt := 51) hx hb dX11_mark_11 (by decide) (fun c_5 => ?_) (fun c_5 => ?_)
    · replace h := itp h c_5
      obtain ⟨rfl, rfl⟩ := Prod.mk.inj (Option.some.inj h)
      exact W.vret hx hb hr (R_end hB) hB.2.2.2.2 dX11_mark_51
    · replace h := itn h c_5
      refine lv_lload_n hx hb dX11_mark_14 rfl (lv_at hl 1 rfl) ?_
      refine lv_ldc2 (v := 64) hx hb hown (ht _ tw739) dX11_mark_15 ?_
      refine lv_ldiv hx hb dX11_mark_18 (by decide) ?_
      refine lv_aload_n hx hb dX11_mark_19 rfl (lv_at hl 0 rfl) ?_
      refine R_get (v := .ref (gL g 36)) hx hb ht ui_X11 hown hK hB (by decide) (cell_0 rfl) rfl 11 (by decide) (ht _ tw141) (fun _ h9 => h9) rfl dX11_mark_20 ?_
      refine R_alenJ hx hb (v := (157 : Int32)) hK hB rfl rfl dX11_mark_23 ?_
      refine lv_i2l (v := (157 : Int32).toInt64) hx hb dX11_mark_24 rfl ?_
      refine W.lcmp hx hb dX11_mark_25 ?_
      refine lv_if_ge (tgt := 51) hx hb dX11_mark_26 (by decide) (fun c_6 => ?_) (fun c_6 => ?_)
      · replace h := itp h c_6
        obtain ⟨rfl, rfl⟩ := Prod.mk.inj (Option.some.inj h)
        exact W.vret hx hb hr (R_end hB) hB.2.2.2.2 dX11_mark_51
      · replace h := itn h c_6
        refine lv_aload_n hx hb dX11_mark_29 rfl (lv_at hl 0 rfl) ?_
        refine R_get (v := .ref (gL g 36)) hx hb ht ui_X11 hown hK hB (by decide) (cell_0 rfl) rfl 11 (by decide) (ht _ tw141) (fun _ h9 => h9) rfl dX11_mark_30 ?_
        refine lv_lload_n hx hb dX11_mark_33 rfl (lv_at hl 1 rfl) ?_
        refine lv_ldc2 (v := 64) hx hb hown (ht _ tw739) dX11_mark_34 ?_
        refine lv_ldiv hx hb dX11_mark_37 (by decide) ?_
        refine lv_l2i (v := (a1 / (64 : Int64)).toInt32) hx hb dX11_mark_38 rfl ?_
        refine lv_dup2_11 hx hb dX11_mark_39 rfl rfl ?_
        replace h := ck_eq h; obtain ⟨q_7, h⟩ := h
        refine R_lald hx hb hK hB rfl (inb_eq q_7) dX11_mark_40 ?_
        refine lv_lconst (v := 1) hx hb dX11_mark_41 (by decide) ?_
        refine lv_lload_n hx hb dX11_mark_42 rfl (lv_at hl 1 rfl) ?_
        refine lv_ldc2 (v := 64) hx hb hown (ht _ tw739) dX11_mark_43 ?_
        refine lv_lrem hx hb dX11_mark_46 (by decide) ?_
        refine lv_l2i (v := (a1 - a1 / (64 : Int64) * (64 : Int64)).toInt32) hx hb dX11_mark_47 rfl ?_
        refine lv_lshl (v := ((1 : Int64) <<< (((a1 - a1 / (64 : Int64) * (64 : Int64)).toInt32).toInt64 &&& 63))) hx hb dX11_mark_48 rfl ?_
        refine lv_lor hx hb dX11_mark_49 ?_
        refine R_last hx hb hK hB rfl (inb_eq q_7) dX11_mark_50 (fun H locs hB => ?_)
        obtain ⟨rfl, rfl⟩ := Prod.mk.inj (Option.some.inj h)
        exact W.vret hx hb hr (R_end hB) hB.2.2.2.2 dX11_mark_51
def f_X11_isMarked (a1 : Int32) (σ : Hp) : Option (Int32 × Hp) := if a1 < 0 then some ((0 : Int32), σ) else if (157 : Int32) ≤ (a1 / (64 : Int32)) then some ((0 : Int32), σ) else ck (inb (a1 / (64 : Int32)) 157 = true) (if (lg_cmp (((hJ σ 36 (a1 / (64 : Int32)).toNatClampNeg).toUInt64 >>> ((a1 - a1 / (64 : Int32) * (64 : Int32)).toInt64.toUInt64 &&& Int64.toUInt64 63)).toInt64 &&& (1 : Int64)) (1 : Int64)) = 0 then some ((1 : Int32), σ) else some ((0 : Int32), σ))
set_option maxHeartbeats 4000000 in
set_option maxRecDepth 100000 in
theorem c_X11_isMarked (l : Launch) (g : tG) (P : Nat → Nat) (σ : Hp) (a1 : Int32) (sz : Nat) {r : Int32} {τ : Hp} (h : f_X11_isMarked a1 σ = some (r, τ)) : Met l yX11_isMarked (Cond.code yX11_isMarked cX11_isMarked 2 (some .boolean) :: tblG) ({ frames := 0, cells := 0, slots := 0, locals := 0 }) (va_Pc [.ref (gL g 0), .int a1] (tPre g P σ sz)) (tQ (some (.int r)) (tPost g P τ (va_A (wC g P σ) sz)) (va_A (wC g P σ) sz)) 0 0 (va_A (wC g P σ) sz) := by
  refine T_start (B := fun A => tPost g P τ A) (by decide) (Nat.le_of_ble_eq_true rfl) ?_
  intro p e s m args below meth c ls0 A hx hb hml hr hown hlocks ht hnm hK hZ hA hB0 hl0
  suffices hmain : ∀ (H : Heap) (locs : List Loc) (ls : Array Slot), tB g P σ A s.heap H locs → lv_has ls 2 [(0, .ref (gL g 0)), (1, .int a1)] → WQ p l e { frames := 0, cells := 0, slots := 0, locals := 0 } s m args below meth c g P A (some (.int r)) τ H locs (F0 m 0 ls []) from hmain _ _ ls0 hB0 hl0
  intro H locs ls hB hl
  unfold f_X11_isMarked at h
  refine lv_iload_n hx hb dX11_isMarked_0 rfl (lv_at hl 1 rfl) ?_
  refine lv_if_lt (tgt := 41) hx hb dX11_isMarked_1 (by decide) (fun c_4 => ?_) (fun c_4 => ?_)
  · replace h := itp h c_4
    refine lv_iconst (v := 0) hx hb dX11_isMarked_41 (by decide) ?_
    obtain ⟨rfl, rfl⟩ := Prod.mk.inj (Option.some.inj h)
    exact W.zret hx hb hr rfl (R_end hB) hB.2.2.2.2 dX11_isMarked_42
  · replace h := itn h c_4
    refine lv_iload_n hx hb dX11_isMarked_4 rfl (lv_at hl 1 rfl) ?_
    refine lv_bipush (v := 64) hx hb dX11_isMarked_5 (by decide) ?_
    refine lv_idiv hx hb dX11_isMarked_7 (by decide) ?_
    refine lv_aload_n hx hb dX11_isMarked_8 rfl (lv_at hl 0 rfl) ?_
    refine R_get (v := .ref (gL g 36)) hx hb ht ui_X11 hown hK hB (by decide) (cell_0 rfl) rfl 11 (by decide) (ht _ tw141) (fun _ h9 => h9) rfl dX11_isMarked_9 ?_
    refine R_alenJ hx hb (v := (157 : Int32)) hK hB rfl rfl dX11_isMarked_12 ?_
    refine lv_icmp_ge (tgt := 41) hx hb dX11_isMarked_13 (by decide) (fun c_5 => ?_) (fun c_5 => ?_)
    · replace h := itp h c_5
      refine lv_iconst (v := 0) hx hb dX11_isMarked_41 (by decide) ?_
      obtain ⟨rfl, rfl⟩ := Prod.mk.inj (Option.some.inj h)
      exact W.zret hx hb hr rfl (R_end hB) hB.2.2.2.2 dX11_isMarked_42
    · replace h := itn h c_5
      refine lv_aload_n hx hb dX11_isMarked_16 rfl (lv_at hl 0 rfl) ?_
      refine R_get (v := .ref (gL g 36)) hx hb ht ui_X11 hown hK hB (by decide) (cell_0 rfl) rfl 11 (by decide) (ht _ tw141) (fun _ h9 => h9) rfl dX11_isMarked_17 ?_
      refine lv_iload_n hx hb dX11_isMarked_20 rfl (lv_at hl 1 rfl) ?_
      refine lv_bipush (v := 64) hx hb dX11_isMarked_21 (by decide) ?_
      refine lv_idiv hx hb dX11_isMarked_23 (by decide) ?_
      replace h := ck_eq h; obtain ⟨q_6, h⟩ := h
      refine R_lald hx hb hK hB rfl (inb_eq q_6) dX11_isMarked_24 ?_
      refine lv_iload_n hx hb dX11_isMarked_25 rfl (lv_at hl 1 rfl) ?_
      refine lv_bipush (v := 64) hx hb dX11_isMarked_26 (by decide) ?_
      refine lv_irem hx hb dX11_isMarked_28 (by decide) ?_
      refine lv_lushr (v := ((hJ σ 36 (a1 / (64 : Int32)).toNatClampNeg).toUInt64 >>> ((a1 - a1 / (64 : Int32) * (64 : Int32)).toInt64.toUInt64 &&& Int64.toUInt64 63)).toInt64) hx hb dX11_isMarked_29 rfl ?_
      refine lv_lconst (v := 1) hx hb dX11_isMarked_30 (by decide) ?_
      refine lv_land hx hb dX11_isMarked_31 ?_
      refine lv_lconst (v := 1) hx hb dX11_isMarked_32 (by decide) ?_
      refine W.lcmp hx hb dX11_isMarked_33 ?_
      refine lv_if_ne (tgt := 41) hx hb dX11_isMarked_34 (by decide) (fun c_7 => ?_) (fun c_7 => ?_)
      · replace h := itn h c_7
        refine lv_iconst (v := 0) hx hb dX11_isMarked_41 (by decide) ?_
        obtain ⟨rfl, rfl⟩ := Prod.mk.inj (Option.some.inj h)
        exact W.zret hx hb hr rfl (R_end hB) hB.2.2.2.2 dX11_isMarked_42
      · replace h := itp h c_7
        refine lv_iconst (v := 1) hx hb dX11_isMarked_37 (by decide) ?_
        refine lv_goto (tgt := 42) hx hb dX11_isMarked_38 (by decide) ?_
        obtain ⟨rfl, rfl⟩ := Prod.mk.inj (Option.some.inj h)
        exact W.zret hx hb hr rfl (R_end hB) hB.2.2.2.2 dX11_isMarked_42
def f_X11_barren_b37 (σ1 : Hp) : Option (Int32 × Hp) := b2 (f_X11_refuse (-6 : Int32) σ1) (fun r_9 s_10 => some (r_9, s_10))
def f_X11_barren_b109 (x3 : Int32) (x5 : Int32) (x6 : Int32) (σ1 : Hp) : Option ((Int32 × Int32 × Hp) ⊕ (Int32 × Hp)) := some (.inl (x5, (x6 + 1), σ1))
def f_X11_barren_t91 (x3 : Int32) (x5 : Int32) (x6 : Int32) (σ1 : Hp) : Option ((Int32 × Int32 × Hp) ⊕ (Int32 × Hp)) := if x3 < x6 then ex (some (x5, σ1)) else b2 (f_X11_isMarked x6 σ1) (fun r_19 s_20 => if r_19 = 0 then f_X11_barren_b109 x3 (x5 + 1) x6 s_20 else f_X11_barren_b109 x3 x5 x6 s_20)
def f_X11_barren_s91 (x3 : Int32) (v : (Int32 × Int32 × Hp)) : Option ((Int32 × Int32 × Hp) ⊕ (Int32 × Hp)) := f_X11_barren_t91 x3 v.1 v.2.1 v.2.2
def f_X11_barren_t55 (x2 : Int32) (x3 : Int32) (x4 : Nat) (x5 : Int32) (σ1 : Hp) : Option ((Int32 × Hp) ⊕ (Int32 × Hp)) := if (10000 : Int32) ≤ x5 then ex (iter (f_X11_barren_s91 x3) fuel ((0 : Int32), x2, σ1)) else ck (isLaw σ1 x4 = true) (b2 (v_onward x4 x5.toInt64 1 σ1) (fun r_24 s_25 => b2 (f_X11_mark r_24 s_25) (fun r_27 s_28 => some (.inl ((x5 + 1), s_28)))))
def f_X11_barren_s55 (x2 : Int32) (x3 : Int32) (x4 : Nat) (v : (Int32 × Hp)) : Option ((Int32 × Hp) ⊕ (Int32 × Hp)) := f_X11_barren_t55 x2 x3 x4 v.1 v.2
def f_X11_barren (a1 : Int32) (a2 : Int32) (a3 : Int32) (σ : Hp) : Option (Int32 × Hp) := b2 (f_X7_lawAt 1 a1 σ) (fun r_1 s_2 => cs r_1 (b2 (f_X11_refuse (-1 : Int32) s_2) (fun r_5 s_6 => some (r_5, s_6))) (fun y_4 => if a2 < 0 then f_X11_barren_b37 s_2 else if (10000 : Int32) ≤ a3 then f_X11_barren_b37 s_2 else if a2 ≤ a3 then b2 (f_J7_fill_d0a16 36 (0 : Int64) s_2) (fun r_14 s_15 => iter (f_X11_barren_s55 a2 a3 y_4) fuel ((0 : Int32), s_15)) else f_X11_barren_b37 s_2))
set_option maxHeartbeats 4000000 in
set_option maxRecDepth 100000 in
theorem c_X11_barren (l : Launch) (g : tG) (P : Nat → Nat) (σ : Hp) (a1 : Int32) (a2 : Int32) (a3 : Int32) (sz : Nat) {r : Int32} {τ : Hp} (h : f_X11_barren a1 a2 a3 σ = some (r, τ)) : Met l yX11_barren (Cond.code yX11_barren cX11_barren 7 (some .int) :: tblG) ({ frames := 3, cells := 0, slots := 0, locals := 85 }) (va_Pc [.ref (gL g 0), .int a1, .int a2, .int a3] (tPre g P σ sz)) (tQ (some (.int r)) (tPost g P τ (va_A (wC g P σ) sz)) (va_A (wC g P σ) sz)) 0 0 (va_A (wC g P σ) sz) := by
  refine T_start (B := fun A => tPost g P τ A) (by decide) (Nat.le_of_ble_eq_true rfl) ?_
  intro p e s m args below meth c ls0 A hx hb hml hr hown hlocks ht hnm hK hZ hA hB0 hl0
  have hb_37 : ∀ (σ1 : Hp) (H : Heap) (locs : List Loc) (ls : Array Slot), f_X11_barren_b37 σ1 = some (r, τ) → tB g P σ1 A s.heap H locs → lv_has ls 7 [(0, .ref (gL g 0))] → WQ p l e { frames := 3, cells := 0, slots := 0, locals := 85 } s m args below meth c g P A (some (.int r)) τ H locs (F0 m 37 ls []) := by
    intro σ1 H locs ls h hB hl
    unfold f_X11_barren_b37 at h
    refine lv_aload_n hx hb dX11_barren_37 rfl (lv_at hl 0 rfl) ?_
    refine lv_bipush (v := -6) hx hb dX11_barren_38 (by decide) ?_
    replace h := b2_eq h; obtain ⟨r_9, s_10, hc_11, h⟩ := h
    refine R_call (rest := []) [.int r_9] (R_runV (n := 1) (As := [.int (-6 : Int32)]) ⟨hx, hb, hml, hown, ht⟩ (fun _ h9 => h9) hK hZ hA hB (c_X11_refuse l g P σ1 (-6 : Int32) H.size hc_11) (R_recv hK hB (by decide) (cell_0 rfl) rfl) tw178 tw175 tw177 pw1 tw1 ⟨by decide, by decide, by decide⟩ rfl rfl ⟨Nat.le_of_ble_eq_true rfl, Nat.le_of_ble_eq_true rfl⟩ rfl hl.1 rfl (Nat.le_of_ble_eq_true rfl) dX11_barren_40 ⟨Nat.zero_le _, Nat.zero_le _⟩) hB hA rfl (fun H locs hB => ?_)
    obtain ⟨rfl, rfl⟩ := Prod.mk.inj (Option.some.inj h)
    exact W.iret hx hb hr (R_end hB) hB.2.2.2.2 dX11_barren_43
  have hL_91 : ∀ (x3 : Int32) (n : Nat) (x5 : Int32) (x6 : Int32) (σ1 : Hp) (H : Heap) (locs : List Loc) (ls : Array Slot), iter (f_X11_barren_s91 x3) n (x5, x6, σ1) = some (r, τ) → tB g P σ1 A s.heap H locs → lv_has ls 7 [(0, .ref (gL g 0)), (3, .int x3), (5, .int x5), (6, .int x6)] → WQ p l e { frames := 3, cells := 0, slots := 0, locals := 85 } s m args below meth c g P A (some (.int r)) τ H locs (F0 m 91 ls []) := by
    intro x3 n
    induction n with
    | zero =>
      intro x5 x6 σ1 H locs ls h hB hl
      exact (iter_0 h).elim
    | succ n ih1 =>
      intro x5 x6 σ1 H locs ls h hB hl
      replace h := iter_eq h; obtain ⟨z1, hh1, hx1⟩ := h
      have hb_109 : ∀ (x5 : Int32) (x6 : Int32) (σ1 : Hp) (H : Heap) (locs : List Loc) (ls : Array Slot), f_X11_barren_b109 x3 x5 x6 σ1 = some z1 → tB g P σ1 A s.heap H locs → lv_has ls 7 [(0, .ref (gL g 0)), (3, .int x3), (5, .int x5), (6, .int x6)] → WQ p l e { frames := 3, cells := 0, slots := 0, locals := 85 } s m args below meth c g P A (some (.int r)) τ H locs (F0 m 109 ls []) := by
        intro x5 x6 σ1 H locs ls h hB hl
        unfold f_X11_barren_b109 at h
        refine lv_iinc (v := x6 + 1) (lv' := [(6, .int (x6 + 1)), (0, .ref (gL g 0)), (3, .int x3), (5, .int x5)]) hx hb dX11_barren_109 hl (k := 3) rfl rfl (by decide) rfl (fun ls hl => ?_)
        refine lv_goto (tgt := 91) hx hb dX11_barren_112 (by decide) ?_
        obtain rfl := Option.some.inj h
        exact ih1 x5 (x6 + 1) σ1 H locs ls hx1 hB (lv_sub hl [1, 2, 3, 0] rfl)
      have h : f_X11_barren_t91 x3 x5 x6 σ1 = some z1 := hh1
      clear hh1
      unfold f_X11_barren_t91 at h
      refine lv_iload hx hb dX11_barren_91 (lv_at hl 3 rfl) ?_
      refine lv_iload_n hx hb dX11_barren_93 rfl (lv_at hl 1 rfl) ?_
      refine lv_icmp_gt (tgt := 115) hx hb dX11_barren_94 (by decide) (fun c_18 => ?_) (fun c_18 => ?_)
      · replace h := itp h c_18
        replace h := ex_eq h; obtain ⟨b1, h, hz1⟩ := h
        subst hz1
        have hz1 := (itk_inr hx1).symm
        subst hz1
        refine lv_iload hx hb dX11_barren_115 (lv_at hl 2 rfl) ?_
        obtain ⟨rfl, rfl⟩ := Prod.mk.inj (Option.some.inj h)
        exact W.iret hx hb hr (R_end hB) hB.2.2.2.2 dX11_barren_117
      · replace h := itn h c_18
        refine lv_aload_n hx hb dX11_barren_97 rfl (lv_at hl 0 rfl) ?_
        refine lv_iload hx hb dX11_barren_98 (lv_at hl 3 rfl) ?_
        replace h := b2_eq h; obtain ⟨r_19, s_20, hc_21, h⟩ := h
        refine R_call (rest := []) [.int r_19] (R_runV (n := 1) (As := [.int x6]) ⟨hx, hb, hml, hown, ht⟩ (fun _ h9 => h9) hK hZ hA hB (c_X11_isMarked l g P σ1 x6 H.size hc_21) (R_recv hK hB (by decide) (cell_0 rfl) rfl) tw743 tw740 tw742 pw22 tw1 ⟨by decide, by decide, by decide⟩ rfl rfl ⟨Nat.le_of_ble_eq_true rfl, Nat.le_of_ble_eq_true rfl⟩ rfl hl.1 rfl (Nat.le_of_ble_eq_true rfl) dX11_barren_100 ⟨Nat.zero_le _, Nat.zero_le _⟩) hB hA rfl (fun H locs hB => ?_)
        refine lv_if_ne (tgt := 109) hx hb dX11_barren_103 (by decide) (fun c_22 => ?_) (fun c_22 => ?_)
        · replace h := itn h c_22
          exact hb_109 x5 x6 s_20 H locs ls h hB (lv_sub hl [0, 1, 2, 3] rfl)
        · replace h := itp h c_22
          refine lv_iinc (v := x5 + 1) (lv' := [(5, .int (x5 + 1)), (0, .ref (gL g 0)), (3, .int x3), (6, .int x6)]) hx hb dX11_barren_106 hl (k := 2) rfl rfl (by decide) rfl (fun ls hl => ?_)
          exact hb_109 (x5 + 1) x6 s_20 H locs ls h hB (lv_sub hl [1, 2, 0, 3] rfl)
  have hL_55 : ∀ (x2 : Int32) (x3 : Int32) (x4 : Nat) (n : Nat) (x5 : Int32) (σ1 : Hp) (H : Heap) (locs : List Loc) (ls : Array Slot), iter (f_X11_barren_s55 x2 x3 x4) n (x5, σ1) = some (r, τ) → tB g P σ1 A s.heap H locs → lv_has ls 7 [(0, .ref (gL g 0)), (2, .int x2), (3, .int x3), (4, .ref (P x4)), (5, .int x5)] → WQ p l e { frames := 3, cells := 0, slots := 0, locals := 85 } s m args below meth c g P A (some (.int r)) τ H locs (F0 m 55 ls []) := by
    intro x2 x3 x4 n
    induction n with
    | zero =>
      intro x5 σ1 H locs ls h hB hl
      exact (iter_0 h).elim
    | succ n ih1 =>
      intro x5 σ1 H locs ls h hB hl
      replace h := iter_eq h; obtain ⟨z1, hh1, hx1⟩ := h
      have h : f_X11_barren_t55 x2 x3 x4 x5 σ1 = some z1 := hh1
      clear hh1
      unfold f_X11_barren_t55 at h
      refine lv_iload hx hb dX11_barren_55 (lv_at hl 4 rfl) ?_
      refine lv_sipush (v := 10000) hx hb dX11_barren_57 (by decide) ?_
      refine lv_icmp_ge (tgt := 85) hx hb dX11_barren_60 (by decide) (fun c_17 => ?_) (fun c_17 => ?_)
      · replace h := itp h c_17
        replace h := ex_eq h; obtain ⟨b1, h, hz1⟩ := h
        subst hz1
        have hz1 := (itk_inr hx1).symm
        subst hz1
        refine lv_iconst (v := 0) hx hb dX11_barren_85 (by decide) ?_
        refine lv_istore (lv' := [(5, .int (0 : Int32)), (0, .ref (gL g 0)), (2, .int x2), (3, .int x3), (4, .ref (P x4))]) hx hb dX11_barren_86 hl (by decide) rfl (fun ls hl => ?_)
        refine lv_iload_n hx hb dX11_barren_88 rfl (lv_at hl 2 rfl) ?_
        refine lv_istore (lv' := [(6, .int x2), (5, .int (0 : Int32)), (0, .ref (gL g 0)), (2, .int x2), (3, .int x3), (4, .ref (P x4))]) hx hb dX11_barren_89 hl (by decide) rfl (fun ls hl => ?_)
        exact hL_91 x3 fuel (0 : Int32) x2 σ1 H locs ls h hB (lv_sub hl [2, 4, 1, 0] rfl)
      · replace h := itn h c_17
        refine lv_aload_n hx hb dX11_barren_63 rfl (lv_at hl 0 rfl) ?_
        refine lv_aload hx hb dX11_barren_64 (lv_at hl 3 rfl) ?_
        refine lv_iload hx hb dX11_barren_66 (lv_at hl 4 rfl) ?_
        refine lv_i2l (v := x5.toInt64) hx hb dX11_barren_68 rfl ?_
        refine lv_aload_n hx hb dX11_barren_69 rfl (lv_at hl 0 rfl) ?_
        refine R_get (v := .ref (gL g 1)) hx hb ht ui_X11 hown hK hB (by decide) (cell_0 rfl) rfl 0 (by decide) (ht _ tw130) (fun _ h9 => h9) rfl dX11_barren_70 ?_
        replace h := ck_eq h; obtain ⟨q_23, h⟩ := h
        replace h := b2_eq h; obtain ⟨r_24, s_25, hc_26, h⟩ := h
        refine R_call (rest := [.ref (gL g 0)]) [.long r_24, .ref (gL g 0)] (dv_onward ⟨hx, hb, hml, hown, ht⟩ hK hZ hA hB q_23 rfl tw281 hc_26 (Nat.le_of_ble_eq_true rfl) (Nat.le_of_ble_eq_true rfl) hl.1 rfl (Nat.le_of_ble_eq_true rfl) dX11_barren_73 (Nat.zero_le _) (Nat.zero_le _)) hB hA rfl (fun H locs hB => ?_)
        replace h := b2_eq h; obtain ⟨r_27, s_28, hc_29, h⟩ := h
        refine R_call (rest := []) [] (R_runV (n := 1) (As := [.long r_24]) ⟨hx, hb, hml, hown, ht⟩ (fun _ h9 => h9) hK hZ hA hB (c_X11_mark l g P s_25 r_24 H.size hc_29) (R_recv hK hB (by decide) (cell_0 rfl) rfl) tw737 tw734 tw736 pw21 tw1 ⟨by decide, by decide, by decide⟩ rfl rfl ⟨Nat.le_of_ble_eq_true rfl, Nat.le_of_ble_eq_true rfl⟩ rfl hl.1 rfl (Nat.le_of_ble_eq_true rfl) dX11_barren_76 ⟨Nat.zero_le _, Nat.zero_le _⟩) hB hA rfl (fun H locs hB => ?_)
        refine lv_iinc (v := x5 + 1) (lv' := [(5, .int (x5 + 1)), (0, .ref (gL g 0)), (2, .int x2), (3, .int x3), (4, .ref (P x4))]) hx hb dX11_barren_79 hl (k := 4) rfl rfl (by decide) rfl (fun ls hl => ?_)
        refine lv_goto (tgt := 55) hx hb dX11_barren_82 (by decide) ?_
        obtain rfl := Option.some.inj h
        exact ih1 (x5 + 1) s_28 H locs ls hx1 hB (lv_sub hl [1, 2, 3, 4, 0] rfl)
  suffices hmain : ∀ (H : Heap) (locs : List Loc) (ls : Array Slot), tB g P σ A s.heap H locs → lv_has ls 7 [(0, .ref (gL g 0)), (1, .int a1), (2, .int a2), (3, .int a3)] → WQ p l e { frames := 3, cells := 0, slots := 0, locals := 85 } s m args below meth c g P A (some (.int r)) τ H locs (F0 m 0 ls []) from hmain _ _ ls0 hB0 hl0
  intro H locs ls hB hl
  unfold f_X11_barren at h
  refine lv_aload_n hx hb dX11_barren_0 rfl (lv_at hl 0 rfl) ?_
  refine R_get (v := .ref (gL g 1)) hx hb ht ui_X11 hown hK hB (by decide) (cell_0 rfl) rfl 0 (by decide) (ht _ tw130) (fun _ h9 => h9) rfl dX11_barren_1 ?_
  refine lv_iload_n hx hb dX11_barren_4 rfl (lv_at hl 1 rfl) ?_
  replace h := b2_eq h; obtain ⟨r_1, s_2, hc_3, h⟩ := h
  refine R_call (rest := []) [va_rf (Option.map P r_1)] (R_runV (n := 1) (As := [.int a1]) ⟨hx, hb, hml, hown, ht⟩ (fun _ h9 => h9) hK hZ hA hB (c_X7_lawAt l g P σ 1 a1 rfl H.size hc_3) (R_recv hK hB (by decide) (cell_1 rfl) rfl) tw228 tw225 tw226 tw227 tw2 ⟨by decide, by decide, by decide⟩ rfl rfl ⟨Nat.le_of_ble_eq_true rfl, Nat.le_of_ble_eq_true rfl⟩ rfl hl.1 rfl (Nat.le_of_ble_eq_true rfl) dX11_barren_5 ⟨Nat.zero_le _, Nat.zero_le _⟩) hB hA rfl (fun H locs hB => ?_)
  refine lv_astoreR (lv' := [(4, va_rf (Option.map P r_1)), (0, .ref (gL g 0)), (1, .int a1), (2, .int a2), (3, .int a3)]) hx hb dX11_barren_8 hl (by decide) rfl (fun ls hl => ?_)
  refine lv_aloadR hx hb dX11_barren_10 (lv_at hl 0 rfl) ?_
  rcases r_1 with _ | y_4
  · replace h := cs_n h
    have hl : lv_has ls 7 [(4, .null), (0, .ref (gL g 0)), (1, .int a1), (2, .int a2), (3, .int a3)] := hl
    refine lv_ifnonnullN hx hb dX11_barren_12 ?_
    refine lv_aload_n hx hb dX11_barren_15 rfl (lv_at hl 1 rfl) ?_
    refine lv_iconst (v := -1) hx hb dX11_barren_16 (by decide) ?_
    replace h := b2_eq h; obtain ⟨r_5, s_6, hc_7, h⟩ := h
    refine R_call (rest := []) [.int r_5] (R_runV (n := 1) (As := [.int (-1 : Int32)]) ⟨hx, hb, hml, hown, ht⟩ (fun _ h9 => h9) hK hZ hA hB (c_X11_refuse l g P s_2 (-1 : Int32) H.size hc_7) (R_recv hK hB (by decide) (cell_0 rfl) rfl) tw178 tw175 tw177 pw1 tw1 ⟨by decide, by decide, by decide⟩ rfl rfl ⟨Nat.le_of_ble_eq_true rfl, Nat.le_of_ble_eq_true rfl⟩ rfl hl.1 rfl (Nat.le_of_ble_eq_true rfl) dX11_barren_17 ⟨Nat.zero_le _, Nat.zero_le _⟩) hB hA rfl (fun H locs hB => ?_)
    obtain ⟨rfl, rfl⟩ := Prod.mk.inj (Option.some.inj h)
    exact W.iret hx hb hr (R_end hB) hB.2.2.2.2 dX11_barren_20
  · replace h := cs_s h
    have hl : lv_has ls 7 [(4, .ref (P y_4)), (0, .ref (gL g 0)), (1, .int a1), (2, .int a2), (3, .int a3)] := hl
    refine lv_ifnonnull (tgt := 21) hx hb dX11_barren_12 (by decide) ?_
    refine lv_iload_n hx hb dX11_barren_21 rfl (lv_at hl 3 rfl) ?_
    refine lv_if_lt (tgt := 37) hx hb dX11_barren_22 (by decide) (fun c_8 => ?_) (fun c_8 => ?_)
    · replace h := itp h c_8
      exact hb_37 s_2 H locs ls h hB (lv_sub hl [1] rfl)
    · replace h := itn h c_8
      refine lv_iload_n hx hb dX11_barren_25 rfl (lv_at hl 4 rfl) ?_
      refine lv_sipush (v := 10000) hx hb dX11_barren_26 (by decide) ?_
      refine lv_icmp_ge (tgt := 37) hx hb dX11_barren_29 (by decide) (fun c_12 => ?_) (fun c_12 => ?_)
      · replace h := itp h c_12
        exact hb_37 s_2 H locs ls h hB (lv_sub hl [1] rfl)
      · replace h := itn h c_12
        refine lv_iload_n hx hb dX11_barren_32 rfl (lv_at hl 3 rfl) ?_
        refine lv_iload_n hx hb dX11_barren_33 rfl (lv_at hl 4 rfl) ?_
        refine lv_icmp_le (tgt := 44) hx hb dX11_barren_34 (by decide) (fun c_13 => ?_) (fun c_13 => ?_)
        · replace h := itp h c_13
          refine lv_aload_n hx hb dX11_barren_44 rfl (lv_at hl 1 rfl) ?_
          refine R_get (v := .ref (gL g 36)) hx hb ht ui_X11 hown hK hB (by decide) (cell_0 rfl) rfl 11 (by decide) (ht _ tw141) (fun _ h9 => h9) rfl dX11_barren_45 ?_
          refine lv_lconst (v := 0) hx hb dX11_barren_48 (by decide) ?_
          replace h := b2_eq h; obtain ⟨r_14, s_15, hc_16, h⟩ := h
          refine R_call (rest := []) [] (R_runS (n := 2) (As := [.ref (gL g 36), .long (0 : Int64)]) ⟨hx, hb, hml, hown, ht⟩ (fun _ h9 => h9) hK hZ hA hB (c_J7_fill_d0a16 l g P s_2 36 (0 : Int64) rfl H.size hc_16) tw185 tw733 tw184 tw6 ⟨by decide, by decide, by decide⟩ rfl rfl ⟨Nat.le_of_ble_eq_true rfl, Nat.le_of_ble_eq_true rfl⟩ rfl hl.1 rfl (Nat.le_of_ble_eq_true rfl) dX11_barren_49 ⟨Nat.zero_le _, Nat.zero_le _⟩) hB hA rfl (fun H locs hB => ?_)
          refine lv_iconst (v := 0) hx hb dX11_barren_52 (by decide) ?_
          refine lv_istore (lv' := [(5, .int (0 : Int32)), (4, .ref (P y_4)), (0, .ref (gL g 0)), (1, .int a1), (2, .int a2), (3, .int a3)]) hx hb dX11_barren_53 hl (by decide) rfl (fun ls hl => ?_)
          exact hL_55 a2 a3 y_4 fuel (0 : Int32) s_15 H locs ls h hB (lv_sub hl [2, 4, 5, 1, 0] rfl)
        · replace h := itn h c_13
          exact hb_37 s_2 H locs ls h hB (lv_sub hl [1] rfl)
def f_X11_longest_b34 (σ1 : Hp) : Option (Int32 × Hp) := b2 (f_X11_refuse (-6 : Int32) σ1) (fun r_9 s_10 => some ((r_9 - (10 : Int32)), s_10))
def f_X11_longest_b84 (x2 : Int32) (x3 : Nat) (x4 : Int32) (x5 : Int32) (x6 : Int32) (σ1 : Hp) : Option ((Int32 × Int32 × Int32 × Hp) ⊕ (Int32 × Hp)) := some (.inl (x4, x5, (x6 + 1), σ1))
def f_X11_longest_t53 (x2 : Int32) (x3 : Nat) (x4 : Int32) (x5 : Int32) (x6 : Int32) (σ1 : Hp) : Option ((Int32 × Int32 × Int32 × Hp) ⊕ (Int32 × Hp)) := if x2 ≤ x6 then ex (some (x4, σ1)) else b2 (f_X11_countGoes x3 x6.toInt64 σ1) (fun r_14 s_15 => if r_14 ≤ x5 then f_X11_longest_b84 x2 x3 x4 x5 x6 s_15 else f_X11_longest_b84 x2 x3 x6 r_14 x6 s_15)
def f_X11_longest_s53 (x2 : Int32) (x3 : Nat) (v : (Int32 × Int32 × Int32 × Hp)) : Option ((Int32 × Int32 × Int32 × Hp) ⊕ (Int32 × Hp)) := f_X11_longest_t53 x2 x3 v.1 v.2.1 v.2.2.1 v.2.2.2
def f_X11_longest (a1 : Int32) (a2 : Int32) (σ : Hp) : Option (Int32 × Hp) := b2 (f_X7_lawAt 1 a1 σ) (fun r_1 s_2 => cs r_1 (b2 (f_X11_refuse (-1 : Int32) s_2) (fun r_5 s_6 => some ((r_5 - (10 : Int32)), s_6))) (fun y_4 => if a2 < (1 : Int32) then f_X11_longest_b34 s_2 else if a2 ≤ (2000 : Int32) then iter (f_X11_longest_s53 a2 y_4) fuel ((-1 : Int32), (-1 : Int32), (0 : Int32), s_2) else f_X11_longest_b34 s_2))
set_option maxHeartbeats 4000000 in
set_option maxRecDepth 100000 in
theorem c_X11_longest (l : Launch) (g : tG) (P : Nat → Nat) (σ : Hp) (a1 : Int32) (a2 : Int32) (sz : Nat) {r : Int32} {τ : Hp} (h : f_X11_longest a1 a2 σ = some (r, τ)) : Met l yX11_longest (Cond.code yX11_longest cX11_longest 8 (some .int) :: tblG) ({ frames := 4, cells := 0, slots := 0, locals := 114 }) (va_Pc [.ref (gL g 0), .int a1, .int a2] (tPre g P σ sz)) (tQ (some (.int r)) (tPost g P τ (va_A (wC g P σ) sz)) (va_A (wC g P σ) sz)) 0 0 (va_A (wC g P σ) sz) := by
  refine T_start (B := fun A => tPost g P τ A) (by decide) (Nat.le_of_ble_eq_true rfl) ?_
  intro p e s m args below meth c ls0 A hx hb hml hr hown hlocks ht hnm hK hZ hA hB0 hl0
  have hb_34 : ∀ (σ1 : Hp) (H : Heap) (locs : List Loc) (ls : Array Slot), f_X11_longest_b34 σ1 = some (r, τ) → tB g P σ1 A s.heap H locs → lv_has ls 8 [(0, .ref (gL g 0))] → WQ p l e { frames := 4, cells := 0, slots := 0, locals := 114 } s m args below meth c g P A (some (.int r)) τ H locs (F0 m 34 ls []) := by
    intro σ1 H locs ls h hB hl
    unfold f_X11_longest_b34 at h
    refine lv_aload_n hx hb dX11_longest_34 rfl (lv_at hl 0 rfl) ?_
    refine lv_bipush (v := -6) hx hb dX11_longest_35 (by decide) ?_
    replace h := b2_eq h; obtain ⟨r_9, s_10, hc_11, h⟩ := h
    refine R_call (rest := []) [.int r_9] (R_runV (n := 1) (As := [.int (-6 : Int32)]) ⟨hx, hb, hml, hown, ht⟩ (fun _ h9 => h9) hK hZ hA hB (c_X11_refuse l g P σ1 (-6 : Int32) H.size hc_11) (R_recv hK hB (by decide) (cell_0 rfl) rfl) tw178 tw175 tw177 pw1 tw1 ⟨by decide, by decide, by decide⟩ rfl rfl ⟨Nat.le_of_ble_eq_true rfl, Nat.le_of_ble_eq_true rfl⟩ rfl hl.1 rfl (Nat.le_of_ble_eq_true rfl) dX11_longest_37 ⟨Nat.zero_le _, Nat.zero_le _⟩) hB hA rfl (fun H locs hB => ?_)
    refine lv_bipush (v := 10) hx hb dX11_longest_40 (by decide) ?_
    refine lv_isub hx hb dX11_longest_42 ?_
    obtain ⟨rfl, rfl⟩ := Prod.mk.inj (Option.some.inj h)
    exact W.iret hx hb hr (R_end hB) hB.2.2.2.2 dX11_longest_43
  have hL_53 : ∀ (x2 : Int32) (x3 : Nat) (n : Nat) (x4 : Int32) (x5 : Int32) (x6 : Int32) (σ1 : Hp) (H : Heap) (locs : List Loc) (ls : Array Slot), iter (f_X11_longest_s53 x2 x3) n (x4, x5, x6, σ1) = some (r, τ) → tB g P σ1 A s.heap H locs → lv_has ls 8 [(0, .ref (gL g 0)), (2, .int x2), (3, .ref (P x3)), (4, .int x4), (5, .int x5), (6, .int x6)] → WQ p l e { frames := 4, cells := 0, slots := 0, locals := 114 } s m args below meth c g P A (some (.int r)) τ H locs (F0 m 53 ls []) := by
    intro x2 x3 n
    induction n with
    | zero =>
      intro x4 x5 x6 σ1 H locs ls h hB hl
      exact (iter_0 h).elim
    | succ n ih1 =>
      intro x4 x5 x6 σ1 H locs ls h hB hl
      replace h := iter_eq h; obtain ⟨z1, hh1, hx1⟩ := h
      have hb_84 : ∀ (x4 : Int32) (x5 : Int32) (x6 : Int32) (σ1 : Hp) (H : Heap) (locs : List Loc) (ls : Array Slot), f_X11_longest_b84 x2 x3 x4 x5 x6 σ1 = some z1 → tB g P σ1 A s.heap H locs → lv_has ls 8 [(0, .ref (gL g 0)), (2, .int x2), (3, .ref (P x3)), (4, .int x4), (5, .int x5), (6, .int x6)] → WQ p l e { frames := 4, cells := 0, slots := 0, locals := 114 } s m args below meth c g P A (some (.int r)) τ H locs (F0 m 84 ls []) := by
        intro x4 x5 x6 σ1 H locs ls h hB hl
        unfold f_X11_longest_b84 at h
        refine lv_iinc (v := x6 + 1) (lv' := [(6, .int (x6 + 1)), (0, .ref (gL g 0)), (2, .int x2), (3, .ref (P x3)), (4, .int x4), (5, .int x5)]) hx hb dX11_longest_84 hl (k := 5) rfl rfl (by decide) rfl (fun ls hl => ?_)
        refine lv_goto (tgt := 53) hx hb dX11_longest_87 (by decide) ?_
        obtain rfl := Option.some.inj h
        exact ih1 x4 x5 (x6 + 1) σ1 H locs ls hx1 hB (lv_sub hl [1, 2, 3, 4, 5, 0] rfl)
      have h : f_X11_longest_t53 x2 x3 x4 x5 x6 σ1 = some z1 := hh1
      clear hh1
      unfold f_X11_longest_t53 at h
      refine lv_iload hx hb dX11_longest_53 (lv_at hl 5 rfl) ?_
      refine lv_iload_n hx hb dX11_longest_55 rfl (lv_at hl 1 rfl) ?_
      refine lv_icmp_ge (tgt := 90) hx hb dX11_longest_56 (by decide) (fun c_13 => ?_) (fun c_13 => ?_)
      · replace h := itp h c_13
        replace h := ex_eq h; obtain ⟨b1, h, hz1⟩ := h
        subst hz1
        have hz1 := (itk_inr hx1).symm
        subst hz1
        refine lv_iload hx hb dX11_longest_90 (lv_at hl 3 rfl) ?_
        obtain ⟨rfl, rfl⟩ := Prod.mk.inj (Option.some.inj h)
        exact W.iret hx hb hr (R_end hB) hB.2.2.2.2 dX11_longest_92
      · replace h := itn h c_13
        refine lv_aload_n hx hb dX11_longest_59 rfl (lv_at hl 0 rfl) ?_
        refine lv_aload_n hx hb dX11_longest_60 rfl (lv_at hl 2 rfl) ?_
        refine lv_iload hx hb dX11_longest_61 (lv_at hl 5 rfl) ?_
        refine lv_i2l (v := x6.toInt64) hx hb dX11_longest_63 rfl ?_
        replace h := b2_eq h; obtain ⟨r_14, s_15, hc_16, h⟩ := h
        refine R_call (rest := []) [.int r_14] (R_runV (n := 2) (As := [.ref (P x3), .long x6.toInt64]) ⟨hx, hb, hml, hown, ht⟩ (fun _ h9 => h9) hK hZ hA hB (c_X11_countGoes l g P σ1 x3 x6.toInt64 H.size hc_16) (R_recv hK hB (by decide) (cell_0 rfl) rfl) tw686 tw683 tw685 pw16 tw1 ⟨by decide, by decide, by decide⟩ rfl rfl ⟨Nat.le_of_ble_eq_true rfl, Nat.le_of_ble_eq_true rfl⟩ rfl hl.1 rfl (Nat.le_of_ble_eq_true rfl) dX11_longest_64 ⟨Nat.zero_le _, Nat.zero_le _⟩) hB hA rfl (fun H locs hB => ?_)
        refine lv_istore (lv' := [(7, .int r_14), (0, .ref (gL g 0)), (2, .int x2), (3, .ref (P x3)), (4, .int x4), (5, .int x5), (6, .int x6)]) hx hb dX11_longest_67 hl (by decide) rfl (fun ls hl => ?_)
        refine lv_iload hx hb dX11_longest_69 (lv_at hl 0 rfl) ?_
        refine lv_iload hx hb dX11_longest_71 (lv_at hl 5 rfl) ?_
        refine lv_icmp_le (tgt := 84) hx hb dX11_longest_73 (by decide) (fun c_17 => ?_) (fun c_17 => ?_)
        · replace h := itp h c_17
          exact hb_84 x4 x5 x6 s_15 H locs ls h hB (lv_sub hl [1, 2, 3, 4, 5, 6] rfl)
        · replace h := itn h c_17
          refine lv_iload hx hb dX11_longest_76 (lv_at hl 0 rfl) ?_
          refine lv_istore (lv' := [(5, .int r_14), (7, .int r_14), (0, .ref (gL g 0)), (2, .int x2), (3, .ref (P x3)), (4, .int x4), (6, .int x6)]) hx hb dX11_longest_78 hl (by decide) rfl (fun ls hl => ?_)
          refine lv_iload hx hb dX11_longest_80 (lv_at hl 6 rfl) ?_
          refine lv_istore (lv' := [(4, .int x6), (5, .int r_14), (7, .int r_14), (0, .ref (gL g 0)), (2, .int x2), (3, .ref (P x3)), (6, .int x6)]) hx hb dX11_longest_82 hl (by decide) rfl (fun ls hl => ?_)
          exact hb_84 x6 r_14 x6 s_15 H locs ls h hB (lv_sub hl [3, 4, 5, 0, 1, 6] rfl)
  suffices hmain : ∀ (H : Heap) (locs : List Loc) (ls : Array Slot), tB g P σ A s.heap H locs → lv_has ls 8 [(0, .ref (gL g 0)), (1, .int a1), (2, .int a2)] → WQ p l e { frames := 4, cells := 0, slots := 0, locals := 114 } s m args below meth c g P A (some (.int r)) τ H locs (F0 m 0 ls []) from hmain _ _ ls0 hB0 hl0
  intro H locs ls hB hl
  unfold f_X11_longest at h
  refine lv_aload_n hx hb dX11_longest_0 rfl (lv_at hl 0 rfl) ?_
  refine R_get (v := .ref (gL g 1)) hx hb ht ui_X11 hown hK hB (by decide) (cell_0 rfl) rfl 0 (by decide) (ht _ tw130) (fun _ h9 => h9) rfl dX11_longest_1 ?_
  refine lv_iload_n hx hb dX11_longest_4 rfl (lv_at hl 1 rfl) ?_
  replace h := b2_eq h; obtain ⟨r_1, s_2, hc_3, h⟩ := h
  refine R_call (rest := []) [va_rf (Option.map P r_1)] (R_runV (n := 1) (As := [.int a1]) ⟨hx, hb, hml, hown, ht⟩ (fun _ h9 => h9) hK hZ hA hB (c_X7_lawAt l g P σ 1 a1 rfl H.size hc_3) (R_recv hK hB (by decide) (cell_1 rfl) rfl) tw228 tw225 tw226 tw227 tw2 ⟨by decide, by decide, by decide⟩ rfl rfl ⟨Nat.le_of_ble_eq_true rfl, Nat.le_of_ble_eq_true rfl⟩ rfl hl.1 rfl (Nat.le_of_ble_eq_true rfl) dX11_longest_5 ⟨Nat.zero_le _, Nat.zero_le _⟩) hB hA rfl (fun H locs hB => ?_)
  refine lv_astore_nR (lv' := [(3, va_rf (Option.map P r_1)), (0, .ref (gL g 0)), (1, .int a1), (2, .int a2)]) hx hb dX11_longest_8 rfl hl (by decide) rfl (fun ls hl => ?_)
  refine lv_aload_nR hx hb dX11_longest_9 rfl (lv_at hl 0 rfl) ?_
  rcases r_1 with _ | y_4
  · replace h := cs_n h
    have hl : lv_has ls 8 [(3, .null), (0, .ref (gL g 0)), (1, .int a1), (2, .int a2)] := hl
    refine lv_ifnonnullN hx hb dX11_longest_10 ?_
    refine lv_aload_n hx hb dX11_longest_13 rfl (lv_at hl 1 rfl) ?_
    refine lv_iconst (v := -1) hx hb dX11_longest_14 (by decide) ?_
    replace h := b2_eq h; obtain ⟨r_5, s_6, hc_7, h⟩ := h
    refine R_call (rest := []) [.int r_5] (R_runV (n := 1) (As := [.int (-1 : Int32)]) ⟨hx, hb, hml, hown, ht⟩ (fun _ h9 => h9) hK hZ hA hB (c_X11_refuse l g P s_2 (-1 : Int32) H.size hc_7) (R_recv hK hB (by decide) (cell_0 rfl) rfl) tw178 tw175 tw177 pw1 tw1 ⟨by decide, by decide, by decide⟩ rfl rfl ⟨Nat.le_of_ble_eq_true rfl, Nat.le_of_ble_eq_true rfl⟩ rfl hl.1 rfl (Nat.le_of_ble_eq_true rfl) dX11_longest_15 ⟨Nat.zero_le _, Nat.zero_le _⟩) hB hA rfl (fun H locs hB => ?_)
    refine lv_bipush (v := 10) hx hb dX11_longest_18 (by decide) ?_
    refine lv_isub hx hb dX11_longest_20 ?_
    obtain ⟨rfl, rfl⟩ := Prod.mk.inj (Option.some.inj h)
    exact W.iret hx hb hr (R_end hB) hB.2.2.2.2 dX11_longest_21
  · replace h := cs_s h
    have hl : lv_has ls 8 [(3, .ref (P y_4)), (0, .ref (gL g 0)), (1, .int a1), (2, .int a2)] := hl
    refine lv_ifnonnull (tgt := 22) hx hb dX11_longest_10 (by decide) ?_
    refine lv_iload_n hx hb dX11_longest_22 rfl (lv_at hl 3 rfl) ?_
    refine lv_iconst (v := 1) hx hb dX11_longest_23 (by decide) ?_
    refine lv_icmp_lt (tgt := 34) hx hb dX11_longest_24 (by decide) (fun c_8 => ?_) (fun c_8 => ?_)
    · replace h := itp h c_8
      exact hb_34 s_2 H locs ls h hB (lv_sub hl [1] rfl)
    · replace h := itn h c_8
      refine lv_iload_n hx hb dX11_longest_27 rfl (lv_at hl 3 rfl) ?_
      refine lv_sipush (v := 2000) hx hb dX11_longest_28 (by decide) ?_
      refine lv_icmp_le (tgt := 44) hx hb dX11_longest_31 (by decide) (fun c_12 => ?_) (fun c_12 => ?_)
      · replace h := itp h c_12
        refine lv_iconst (v := -1) hx hb dX11_longest_44 (by decide) ?_
        refine lv_istore (lv' := [(4, .int (-1 : Int32)), (3, .ref (P y_4)), (0, .ref (gL g 0)), (1, .int a1), (2, .int a2)]) hx hb dX11_longest_45 hl (by decide) rfl (fun ls hl => ?_)
        refine lv_iconst (v := -1) hx hb dX11_longest_47 (by decide) ?_
        refine lv_istore (lv' := [(5, .int (-1 : Int32)), (4, .int (-1 : Int32)), (3, .ref (P y_4)), (0, .ref (gL g 0)), (1, .int a1), (2, .int a2)]) hx hb dX11_longest_48 hl (by decide) rfl (fun ls hl => ?_)
        refine lv_iconst (v := 0) hx hb dX11_longest_50 (by decide) ?_
        refine lv_istore (lv' := [(6, .int (0 : Int32)), (5, .int (-1 : Int32)), (4, .int (-1 : Int32)), (3, .ref (P y_4)), (0, .ref (gL g 0)), (1, .int a1), (2, .int a2)]) hx hb dX11_longest_51 hl (by decide) rfl (fun ls hl => ?_)
        exact hL_53 a2 y_4 fuel (-1 : Int32) (-1 : Int32) (0 : Int32) s_2 H locs ls h hB (lv_sub hl [4, 6, 3, 2, 1, 0] rfl)
      · replace h := itn h c_12
        exact hb_34 s_2 H locs ls h hB (lv_sub hl [1] rfl)
def f_X11_many_b53 (σ1 : Hp) : Option (Int32 × Hp) := b2 (f_X11_refuse (-6 : Int32) σ1) (fun r_9 s_10 => some (r_9, s_10))
def f_X11_many_b94 (x2 : Int32) (x3 : Int32) (x4 : Int32) (x5 : Nat) (x6 : Int32) (x7 : Int32) (σ1 : Hp) : Option ((Int32 × Int32 × Hp) ⊕ (Int32 × Hp)) := some (.inl (x6, (x7 + 1), σ1))
def f_X11_many_t66 (x2 : Int32) (x3 : Int32) (x4 : Int32) (x5 : Nat) (x6 : Int32) (x7 : Int32) (σ1 : Hp) : Option ((Int32 × Int32 × Hp) ⊕ (Int32 × Hp)) := if (x3 - x2) < x7 then ex (some (x6, σ1)) else b2 (f_X11_countGoes x5 (x2.toInt64 + x7.toInt64) σ1) (fun r_17 s_18 => if r_17 = x4 then f_X11_many_b94 x2 x3 x4 x5 (x6 + 1) x7 s_18 else f_X11_many_b94 x2 x3 x4 x5 x6 x7 s_18)
def f_X11_many_s66 (x2 : Int32) (x3 : Int32) (x4 : Int32) (x5 : Nat) (v : (Int32 × Int32 × Hp)) : Option ((Int32 × Int32 × Hp) ⊕ (Int32 × Hp)) := f_X11_many_t66 x2 x3 x4 x5 v.1 v.2.1 v.2.2
def f_X11_many (a1 : Int32) (a2 : Int32) (a3 : Int32) (a4 : Int32) (σ : Hp) : Option (Int32 × Hp) := b2 (f_X7_lawAt 1 a1 σ) (fun r_1 s_2 => cs r_1 (b2 (f_X11_refuse (-1 : Int32) s_2) (fun r_5 s_6 => some (r_5, s_6))) (fun y_4 => if a2 < 0 then f_X11_many_b53 s_2 else if a3 < a2 then f_X11_many_b53 s_2 else if (2000 : Int32) ≤ (a3 - a2) then f_X11_many_b53 s_2 else if a4 < (-1 : Int32) then f_X11_many_b53 s_2 else if a4 ≤ (200 : Int32) then iter (f_X11_many_s66 a2 a3 a4 y_4) fuel ((0 : Int32), (0 : Int32), s_2) else f_X11_many_b53 s_2))
set_option maxHeartbeats 4000000 in
set_option maxRecDepth 100000 in
theorem c_X11_many (l : Launch) (g : tG) (P : Nat → Nat) (σ : Hp) (a1 : Int32) (a2 : Int32) (a3 : Int32) (a4 : Int32) (sz : Nat) {r : Int32} {τ : Hp} (h : f_X11_many a1 a2 a3 a4 σ = some (r, τ)) : Met l yX11_many (Cond.code yX11_many cX11_many 8 (some .int) :: tblG) ({ frames := 4, cells := 0, slots := 0, locals := 114 }) (va_Pc [.ref (gL g 0), .int a1, .int a2, .int a3, .int a4] (tPre g P σ sz)) (tQ (some (.int r)) (tPost g P τ (va_A (wC g P σ) sz)) (va_A (wC g P σ) sz)) 0 0 (va_A (wC g P σ) sz) := by
  refine T_start (B := fun A => tPost g P τ A) (by decide) (Nat.le_of_ble_eq_true rfl) ?_
  intro p e s m args below meth c ls0 A hx hb hml hr hown hlocks ht hnm hK hZ hA hB0 hl0
  have hb_53 : ∀ (σ1 : Hp) (H : Heap) (locs : List Loc) (ls : Array Slot), f_X11_many_b53 σ1 = some (r, τ) → tB g P σ1 A s.heap H locs → lv_has ls 8 [(0, .ref (gL g 0))] → WQ p l e { frames := 4, cells := 0, slots := 0, locals := 114 } s m args below meth c g P A (some (.int r)) τ H locs (F0 m 53 ls []) := by
    intro σ1 H locs ls h hB hl
    unfold f_X11_many_b53 at h
    refine lv_aload_n hx hb dX11_many_53 rfl (lv_at hl 0 rfl) ?_
    refine lv_bipush (v := -6) hx hb dX11_many_54 (by decide) ?_
    replace h := b2_eq h; obtain ⟨r_9, s_10, hc_11, h⟩ := h
    refine R_call (rest := []) [.int r_9] (R_runV (n := 1) (As := [.int (-6 : Int32)]) ⟨hx, hb, hml, hown, ht⟩ (fun _ h9 => h9) hK hZ hA hB (c_X11_refuse l g P σ1 (-6 : Int32) H.size hc_11) (R_recv hK hB (by decide) (cell_0 rfl) rfl) tw178 tw175 tw177 pw1 tw1 ⟨by decide, by decide, by decide⟩ rfl rfl ⟨Nat.le_of_ble_eq_true rfl, Nat.le_of_ble_eq_true rfl⟩ rfl hl.1 rfl (Nat.le_of_ble_eq_true rfl) dX11_many_56 ⟨Nat.zero_le _, Nat.zero_le _⟩) hB hA rfl (fun H locs hB => ?_)
    obtain ⟨rfl, rfl⟩ := Prod.mk.inj (Option.some.inj h)
    exact W.iret hx hb hr (R_end hB) hB.2.2.2.2 dX11_many_59
  have hL_66 : ∀ (x2 : Int32) (x3 : Int32) (x4 : Int32) (x5 : Nat) (n : Nat) (x6 : Int32) (x7 : Int32) (σ1 : Hp) (H : Heap) (locs : List Loc) (ls : Array Slot), iter (f_X11_many_s66 x2 x3 x4 x5) n (x6, x7, σ1) = some (r, τ) → tB g P σ1 A s.heap H locs → lv_has ls 8 [(0, .ref (gL g 0)), (2, .int x2), (3, .int x3), (4, .int x4), (5, .ref (P x5)), (6, .int x6), (7, .int x7)] → WQ p l e { frames := 4, cells := 0, slots := 0, locals := 114 } s m args below meth c g P A (some (.int r)) τ H locs (F0 m 66 ls []) := by
    intro x2 x3 x4 x5 n
    induction n with
    | zero =>
      intro x6 x7 σ1 H locs ls h hB hl
      exact (iter_0 h).elim
    | succ n ih1 =>
      intro x6 x7 σ1 H locs ls h hB hl
      replace h := iter_eq h; obtain ⟨z1, hh1, hx1⟩ := h
      have hb_94 : ∀ (x6 : Int32) (x7 : Int32) (σ1 : Hp) (H : Heap) (locs : List Loc) (ls : Array Slot), f_X11_many_b94 x2 x3 x4 x5 x6 x7 σ1 = some z1 → tB g P σ1 A s.heap H locs → lv_has ls 8 [(0, .ref (gL g 0)), (2, .int x2), (3, .int x3), (4, .int x4), (5, .ref (P x5)), (6, .int x6), (7, .int x7)] → WQ p l e { frames := 4, cells := 0, slots := 0, locals := 114 } s m args below meth c g P A (some (.int r)) τ H locs (F0 m 94 ls []) := by
        intro x6 x7 σ1 H locs ls h hB hl
        unfold f_X11_many_b94 at h
        refine lv_iinc (v := x7 + 1) (lv' := [(7, .int (x7 + 1)), (0, .ref (gL g 0)), (2, .int x2), (3, .int x3), (4, .int x4), (5, .ref (P x5)), (6, .int x6)]) hx hb dX11_many_94 hl (k := 6) rfl rfl (by decide) rfl (fun ls hl => ?_)
        refine lv_goto (tgt := 66) hx hb dX11_many_97 (by decide) ?_
        obtain rfl := Option.some.inj h
        exact ih1 x6 (x7 + 1) σ1 H locs ls hx1 hB (lv_sub hl [1, 2, 3, 4, 5, 6, 0] rfl)
      have h : f_X11_many_t66 x2 x3 x4 x5 x6 x7 σ1 = some z1 := hh1
      clear hh1
      unfold f_X11_many_t66 at h
      refine lv_iload hx hb dX11_many_66 (lv_at hl 6 rfl) ?_
      refine lv_iload_n hx hb dX11_many_68 rfl (lv_at hl 2 rfl) ?_
      refine lv_iload_n hx hb dX11_many_69 rfl (lv_at hl 1 rfl) ?_
      refine lv_isub hx hb dX11_many_70 ?_
      refine lv_icmp_gt (tgt := 100) hx hb dX11_many_71 (by decide) (fun c_16 => ?_) (fun c_16 => ?_)
      · replace h := itp h c_16
        replace h := ex_eq h; obtain ⟨b1, h, hz1⟩ := h
        subst hz1
        have hz1 := (itk_inr hx1).symm
        subst hz1
        refine lv_iload hx hb dX11_many_100 (lv_at hl 5 rfl) ?_
        obtain ⟨rfl, rfl⟩ := Prod.mk.inj (Option.some.inj h)
        exact W.iret hx hb hr (R_end hB) hB.2.2.2.2 dX11_many_102
      · replace h := itn h c_16
        refine lv_aload_n hx hb dX11_many_74 rfl (lv_at hl 0 rfl) ?_
        refine lv_aload hx hb dX11_many_75 (lv_at hl 4 rfl) ?_
        refine lv_iload_n hx hb dX11_many_77 rfl (lv_at hl 1 rfl) ?_
        refine lv_i2l (v := x2.toInt64) hx hb dX11_many_78 rfl ?_
        refine lv_iload hx hb dX11_many_79 (lv_at hl 6 rfl) ?_
        refine lv_i2l (v := x7.toInt64) hx hb dX11_many_81 rfl ?_
        refine lv_ladd hx hb dX11_many_82 ?_
        replace h := b2_eq h; obtain ⟨r_17, s_18, hc_19, h⟩ := h
        refine R_call (rest := []) [.int r_17] (R_runV (n := 2) (As := [.ref (P x5), .long (x2.toInt64 + x7.toInt64)]) ⟨hx, hb, hml, hown, ht⟩ (fun _ h9 => h9) hK hZ hA hB (c_X11_countGoes l g P σ1 x5 (x2.toInt64 + x7.toInt64) H.size hc_19) (R_recv hK hB (by decide) (cell_0 rfl) rfl) tw686 tw683 tw685 pw16 tw1 ⟨by decide, by decide, by decide⟩ rfl rfl ⟨Nat.le_of_ble_eq_true rfl, Nat.le_of_ble_eq_true rfl⟩ rfl hl.1 rfl (Nat.le_of_ble_eq_true rfl) dX11_many_83 ⟨Nat.zero_le _, Nat.zero_le _⟩) hB hA rfl (fun H locs hB => ?_)
        refine lv_iload hx hb dX11_many_86 (lv_at hl 3 rfl) ?_
        refine lv_icmp_ne (tgt := 94) hx hb dX11_many_88 (by decide) (fun c_20 => ?_) (fun c_20 => ?_)
        · replace h := itn h c_20
          exact hb_94 x6 x7 s_18 H locs ls h hB (lv_sub hl [0, 1, 2, 3, 4, 5, 6] rfl)
        · replace h := itp h c_20
          refine lv_iinc (v := x6 + 1) (lv' := [(6, .int (x6 + 1)), (0, .ref (gL g 0)), (2, .int x2), (3, .int x3), (4, .int x4), (5, .ref (P x5)), (7, .int x7)]) hx hb dX11_many_91 hl (k := 5) rfl rfl (by decide) rfl (fun ls hl => ?_)
          exact hb_94 (x6 + 1) x7 s_18 H locs ls h hB (lv_sub hl [1, 2, 3, 4, 5, 0, 6] rfl)
  suffices hmain : ∀ (H : Heap) (locs : List Loc) (ls : Array Slot), tB g P σ A s.heap H locs → lv_has ls 8 [(0, .ref (gL g 0)), (1, .int a1), (2, .int a2), (3, .int a3), (4, .int a4)] → WQ p l e { frames := 4, cells := 0, slots := 0, locals := 114 } s m args below meth c g P A (some (.int r)) τ H locs (F0 m 0 ls []) from hmain _ _ ls0 hB0 hl0
  intro H locs ls hB hl
  unfold f_X11_many at h
  refine lv_aload_n hx hb dX11_many_0 rfl (lv_at hl 0 rfl) ?_
  refine R_get (v := .ref (gL g 1)) hx hb ht ui_X11 hown hK hB (by decide) (cell_0 rfl) rfl 0 (by decide) (ht _ tw130) (fun _ h9 => h9) rfl dX11_many_1 ?_
  refine lv_iload_n hx hb dX11_many_4 rfl (lv_at hl 1 rfl) ?_
  replace h := b2_eq h; obtain ⟨r_1, s_2, hc_3, h⟩ := h
  refine R_call (rest := []) [va_rf (Option.map P r_1)] (R_runV (n := 1) (As := [.int a1]) ⟨hx, hb, hml, hown, ht⟩ (fun _ h9 => h9) hK hZ hA hB (c_X7_lawAt l g P σ 1 a1 rfl H.size hc_3) (R_recv hK hB (by decide) (cell_1 rfl) rfl) tw228 tw225 tw226 tw227 tw2 ⟨by decide, by decide, by decide⟩ rfl rfl ⟨Nat.le_of_ble_eq_true rfl, Nat.le_of_ble_eq_true rfl⟩ rfl hl.1 rfl (Nat.le_of_ble_eq_true rfl) dX11_many_5 ⟨Nat.zero_le _, Nat.zero_le _⟩) hB hA rfl (fun H locs hB => ?_)
  refine lv_astoreR (lv' := [(5, va_rf (Option.map P r_1)), (0, .ref (gL g 0)), (1, .int a1), (2, .int a2), (3, .int a3), (4, .int a4)]) hx hb dX11_many_8 hl (by decide) rfl (fun ls hl => ?_)
  refine lv_aloadR hx hb dX11_many_10 (lv_at hl 0 rfl) ?_
  rcases r_1 with _ | y_4
  · replace h := cs_n h
    have hl : lv_has ls 8 [(5, .null), (0, .ref (gL g 0)), (1, .int a1), (2, .int a2), (3, .int a3), (4, .int a4)] := hl
    refine lv_ifnonnullN hx hb dX11_many_12 ?_
    refine lv_aload_n hx hb dX11_many_15 rfl (lv_at hl 1 rfl) ?_
    refine lv_iconst (v := -1) hx hb dX11_many_16 (by decide) ?_
    replace h := b2_eq h; obtain ⟨r_5, s_6, hc_7, h⟩ := h
    refine R_call (rest := []) [.int r_5] (R_runV (n := 1) (As := [.int (-1 : Int32)]) ⟨hx, hb, hml, hown, ht⟩ (fun _ h9 => h9) hK hZ hA hB (c_X11_refuse l g P s_2 (-1 : Int32) H.size hc_7) (R_recv hK hB (by decide) (cell_0 rfl) rfl) tw178 tw175 tw177 pw1 tw1 ⟨by decide, by decide, by decide⟩ rfl rfl ⟨Nat.le_of_ble_eq_true rfl, Nat.le_of_ble_eq_true rfl⟩ rfl hl.1 rfl (Nat.le_of_ble_eq_true rfl) dX11_many_17 ⟨Nat.zero_le _, Nat.zero_le _⟩) hB hA rfl (fun H locs hB => ?_)
    obtain ⟨rfl, rfl⟩ := Prod.mk.inj (Option.some.inj h)
    exact W.iret hx hb hr (R_end hB) hB.2.2.2.2 dX11_many_20
  · replace h := cs_s h
    have hl : lv_has ls 8 [(5, .ref (P y_4)), (0, .ref (gL g 0)), (1, .int a1), (2, .int a2), (3, .int a3), (4, .int a4)] := hl
    refine lv_ifnonnull (tgt := 21) hx hb dX11_many_12 (by decide) ?_
    refine lv_iload_n hx hb dX11_many_21 rfl (lv_at hl 3 rfl) ?_
    refine lv_if_lt (tgt := 53) hx hb dX11_many_22 (by decide) (fun c_8 => ?_) (fun c_8 => ?_)
    · replace h := itp h c_8
      exact hb_53 s_2 H locs ls h hB (lv_sub hl [1] rfl)
    · replace h := itn h c_8
      refine lv_iload_n hx hb dX11_many_25 rfl (lv_at hl 3 rfl) ?_
      refine lv_iload_n hx hb dX11_many_26 rfl (lv_at hl 4 rfl) ?_
      refine lv_icmp_gt (tgt := 53) hx hb dX11_many_27 (by decide) (fun c_12 => ?_) (fun c_12 => ?_)
      · replace h := itp h c_12
        exact hb_53 s_2 H locs ls h hB (lv_sub hl [1] rfl)
      · replace h := itn h c_12
        refine lv_iload_n hx hb dX11_many_30 rfl (lv_at hl 4 rfl) ?_
        refine lv_iload_n hx hb dX11_many_31 rfl (lv_at hl 3 rfl) ?_
        refine lv_isub hx hb dX11_many_32 ?_
        refine lv_sipush (v := 2000) hx hb dX11_many_33 (by decide) ?_
        refine lv_icmp_ge (tgt := 53) hx hb dX11_many_36 (by decide) (fun c_13 => ?_) (fun c_13 => ?_)
        · replace h := itp h c_13
          exact hb_53 s_2 H locs ls h hB (lv_sub hl [1] rfl)
        · replace h := itn h c_13
          refine lv_iload hx hb dX11_many_39 (lv_at hl 5 rfl) ?_
          refine lv_iconst (v := -1) hx hb dX11_many_41 (by decide) ?_
          refine lv_icmp_lt (tgt := 53) hx hb dX11_many_42 (by decide) (fun c_14 => ?_) (fun c_14 => ?_)
          · replace h := itp h c_14
            exact hb_53 s_2 H locs ls h hB (lv_sub hl [1] rfl)
          · replace h := itn h c_14
            refine lv_iload hx hb dX11_many_45 (lv_at hl 5 rfl) ?_
            refine lv_sipush (v := 200) hx hb dX11_many_47 (by decide) ?_
            refine lv_icmp_le (tgt := 60) hx hb dX11_many_50 (by decide) (fun c_15 => ?_) (fun c_15 => ?_)
            · replace h := itp h c_15
              refine lv_iconst (v := 0) hx hb dX11_many_60 (by decide) ?_
              refine lv_istore (lv' := [(6, .int (0 : Int32)), (5, .ref (P y_4)), (0, .ref (gL g 0)), (1, .int a1), (2, .int a2), (3, .int a3), (4, .int a4)]) hx hb dX11_many_61 hl (by decide) rfl (fun ls hl => ?_)
              refine lv_iconst (v := 0) hx hb dX11_many_63 (by decide) ?_
              refine lv_istore (lv' := [(7, .int (0 : Int32)), (6, .int (0 : Int32)), (5, .ref (P y_4)), (0, .ref (gL g 0)), (1, .int a1), (2, .int a2), (3, .int a3), (4, .int a4)]) hx hb dX11_many_64 hl (by decide) rfl (fun ls hl => ?_)
              exact hL_66 a2 a3 a4 y_4 fuel (0 : Int32) (0 : Int32) s_2 H locs ls h hB (lv_sub hl [3, 5, 6, 7, 2, 1, 0] rfl)
            · replace h := itn h c_15
              exact hb_53 s_2 H locs ls h hB (lv_sub hl [1] rfl)
def f_X11_rounds_b31 (σ1 : Hp) : Option (Int32 × Hp) := b2 (f_X11_refuse (-6 : Int32) σ1) (fun r_9 s_10 => some (r_9, s_10))
def f_X11_rounds_b117 (x2 : Int32) (x3 : Nat) (x4 : Int32) (x5 : Int32) (σ1 : Hp) : Option ((Int32 × Int32 × Hp) ⊕ (Int32 × Hp)) := some (.inl (x4, (x5 + 1), σ1))
def f_X11_rounds_b84 (x2 : Int32) (x3 : Nat) (x4 : Int32) (x5 : Int32) (xt0 : Int32) (σ1 : Hp) : Option ((Int32 × Int32 × Hp) ⊕ (Int32 × Hp)) := if xt0 = 0 then f_X11_rounds_b117 x2 x3 x4 x5 σ1 else if (500 : Int32) ≤ x4 then f_X11_rounds_b117 x2 x3 x4 x5 σ1 else ck (inb (2 : Int32) 3 = true) (ck (inb x4 500 = true) (f_X11_rounds_b117 x2 x3 (x4 + 1) x5 (sJ σ1 35 x4.toNatClampNeg (hJ σ1 34 (2 : Int32).toNatClampNeg))))
def f_X11_rounds_b83 (x2 : Int32) (x3 : Nat) (x4 : Int32) (x5 : Int32) (σ1 : Hp) : Option ((Int32 × Int32 × Hp) ⊕ (Int32 × Hp)) := f_X11_rounds_b84 x2 x3 x4 x5 (0 : Int32) σ1
def f_X11_rounds_t44 (x2 : Int32) (x3 : Nat) (x4 : Int32) (x5 : Int32) (σ1 : Hp) : Option ((Int32 × Int32 × Hp) ⊕ (Int32 × Hp)) := if x2 ≤ x5 then ex (some (x4, σ1)) else b2 (f_X11_findRound x3 x5.toInt64 σ1) (fun r_14 s_15 => if r_14 = 0 then f_X11_rounds_b83 x2 x3 x4 x5 s_15 else ck (inb (2 : Int32) 3 = true) (b2 (f_X11_isAmong 35 x4 (hJ s_15 34 (2 : Int32).toNatClampNeg) s_15) (fun r_23 s_24 => if r_23 = 0 then f_X11_rounds_b84 x2 x3 x4 x5 (1 : Int32) s_24 else f_X11_rounds_b83 x2 x3 x4 x5 s_24)))
def f_X11_rounds_s44 (x2 : Int32) (x3 : Nat) (v : (Int32 × Int32 × Hp)) : Option ((Int32 × Int32 × Hp) ⊕ (Int32 × Hp)) := f_X11_rounds_t44 x2 x3 v.1 v.2.1 v.2.2
def f_X11_rounds (a1 : Int32) (a2 : Int32) (σ : Hp) : Option (Int32 × Hp) := b2 (f_X7_lawAt 1 a1 σ) (fun r_1 s_2 => cs r_1 (b2 (f_X11_refuse (-1 : Int32) s_2) (fun r_5 s_6 => some (r_5, s_6))) (fun y_4 => if a2 < (1 : Int32) then f_X11_rounds_b31 s_2 else if a2 ≤ (500 : Int32) then iter (f_X11_rounds_s44 a2 y_4) fuel ((0 : Int32), (0 : Int32), s_2) else f_X11_rounds_b31 s_2))
set_option maxHeartbeats 4000000 in
set_option maxRecDepth 100000 in
theorem c_X11_rounds (l : Launch) (g : tG) (P : Nat → Nat) (σ : Hp) (a1 : Int32) (a2 : Int32) (sz : Nat) {r : Int32} {τ : Hp} (h : f_X11_rounds a1 a2 σ = some (r, τ)) : Met l yX11_rounds (Cond.code yX11_rounds cX11_rounds 7 (some .int) :: tblG) ({ frames := 4, cells := 0, slots := 0, locals := 112 }) (va_Pc [.ref (gL g 0), .int a1, .int a2] (tPre g P σ sz)) (tQ (some (.int r)) (tPost g P τ (va_A (wC g P σ) sz)) (va_A (wC g P σ) sz)) 0 0 (va_A (wC g P σ) sz) := by
  refine T_start (B := fun A => tPost g P τ A) (by decide) (Nat.le_of_ble_eq_true rfl) ?_
  intro p e s m args below meth c ls0 A hx hb hml hr hown hlocks ht hnm hK hZ hA hB0 hl0
  have hb_31 : ∀ (σ1 : Hp) (H : Heap) (locs : List Loc) (ls : Array Slot), f_X11_rounds_b31 σ1 = some (r, τ) → tB g P σ1 A s.heap H locs → lv_has ls 7 [(0, .ref (gL g 0))] → WQ p l e { frames := 4, cells := 0, slots := 0, locals := 112 } s m args below meth c g P A (some (.int r)) τ H locs (F0 m 31 ls []) := by
    intro σ1 H locs ls h hB hl
    unfold f_X11_rounds_b31 at h
    refine lv_aload_n hx hb dX11_rounds_31 rfl (lv_at hl 0 rfl) ?_
    refine lv_bipush (v := -6) hx hb dX11_rounds_32 (by decide) ?_
    replace h := b2_eq h; obtain ⟨r_9, s_10, hc_11, h⟩ := h
    refine R_call (rest := []) [.int r_9] (R_runV (n := 1) (As := [.int (-6 : Int32)]) ⟨hx, hb, hml, hown, ht⟩ (fun _ h9 => h9) hK hZ hA hB (c_X11_refuse l g P σ1 (-6 : Int32) H.size hc_11) (R_recv hK hB (by decide) (cell_0 rfl) rfl) tw178 tw175 tw177 pw1 tw1 ⟨by decide, by decide, by decide⟩ rfl rfl ⟨Nat.le_of_ble_eq_true rfl, Nat.le_of_ble_eq_true rfl⟩ rfl hl.1 rfl (Nat.le_of_ble_eq_true rfl) dX11_rounds_34 ⟨Nat.zero_le _, Nat.zero_le _⟩) hB hA rfl (fun H locs hB => ?_)
    obtain ⟨rfl, rfl⟩ := Prod.mk.inj (Option.some.inj h)
    exact W.iret hx hb hr (R_end hB) hB.2.2.2.2 dX11_rounds_37
  have hL_44 : ∀ (x2 : Int32) (x3 : Nat) (n : Nat) (x4 : Int32) (x5 : Int32) (σ1 : Hp) (H : Heap) (locs : List Loc) (ls : Array Slot), iter (f_X11_rounds_s44 x2 x3) n (x4, x5, σ1) = some (r, τ) → tB g P σ1 A s.heap H locs → lv_has ls 7 [(0, .ref (gL g 0)), (2, .int x2), (3, .ref (P x3)), (4, .int x4), (5, .int x5)] → WQ p l e { frames := 4, cells := 0, slots := 0, locals := 112 } s m args below meth c g P A (some (.int r)) τ H locs (F0 m 44 ls []) := by
    intro x2 x3 n
    induction n with
    | zero =>
      intro x4 x5 σ1 H locs ls h hB hl
      exact (iter_0 h).elim
    | succ n ih1 =>
      intro x4 x5 σ1 H locs ls h hB hl
      replace h := iter_eq h; obtain ⟨z1, hh1, hx1⟩ := h
      have hb_117 : ∀ (x4 : Int32) (x5 : Int32) (σ1 : Hp) (H : Heap) (locs : List Loc) (ls : Array Slot), f_X11_rounds_b117 x2 x3 x4 x5 σ1 = some z1 → tB g P σ1 A s.heap H locs → lv_has ls 7 [(0, .ref (gL g 0)), (2, .int x2), (3, .ref (P x3)), (4, .int x4), (5, .int x5)] → WQ p l e { frames := 4, cells := 0, slots := 0, locals := 112 } s m args below meth c g P A (some (.int r)) τ H locs (F0 m 117 ls []) := by
        intro x4 x5 σ1 H locs ls h hB hl
        unfold f_X11_rounds_b117 at h
        refine lv_iinc (v := x5 + 1) (lv' := [(5, .int (x5 + 1)), (0, .ref (gL g 0)), (2, .int x2), (3, .ref (P x3)), (4, .int x4)]) hx hb dX11_rounds_117 hl (k := 4) rfl rfl (by decide) rfl (fun ls hl => ?_)
        refine lv_goto (tgt := 44) hx hb dX11_rounds_120 (by decide) ?_
        obtain rfl := Option.some.inj h
        exact ih1 x4 (x5 + 1) σ1 H locs ls hx1 hB (lv_sub hl [1, 2, 3, 4, 0] rfl)
      have hb_84 : ∀ (x4 : Int32) (x5 : Int32) (xt0 : Int32) (σ1 : Hp) (H : Heap) (locs : List Loc) (ls : Array Slot), f_X11_rounds_b84 x2 x3 x4 x5 xt0 σ1 = some z1 → tB g P σ1 A s.heap H locs → lv_has ls 7 [(0, .ref (gL g 0)), (2, .int x2), (3, .ref (P x3)), (4, .int x4), (5, .int x5)] → WQ p l e { frames := 4, cells := 0, slots := 0, locals := 112 } s m args below meth c g P A (some (.int r)) τ H locs (F0 m 84 ls [.int xt0]) := by
        intro x4 x5 xt0 σ1 H locs ls h hB hl
        unfold f_X11_rounds_b84 at h
        refine lv_istore (lv' := [(6, .int xt0), (0, .ref (gL g 0)), (2, .int x2), (3, .ref (P x3)), (4, .int x4), (5, .int x5)]) hx hb dX11_rounds_84 hl (by decide) rfl (fun ls hl => ?_)
        refine lv_iload hx hb dX11_rounds_86 (lv_at hl 0 rfl) ?_
        refine lv_if_eq (tgt := 117) hx hb dX11_rounds_88 (by decide) (fun c_18 => ?_) (fun c_18 => ?_)
        · replace h := itp h c_18
          exact hb_117 x4 x5 σ1 H locs ls h hB (lv_sub hl [1, 2, 3, 4, 5] rfl)
        · replace h := itn h c_18
          refine lv_iload hx hb dX11_rounds_91 (lv_at hl 4 rfl) ?_
          refine lv_aload_n hx hb dX11_rounds_93 rfl (lv_at hl 1 rfl) ?_
          refine R_get (v := .ref (gL g 35)) hx hb ht ui_X11 hown hK hB (by decide) (cell_0 rfl) rfl 10 (by decide) (ht _ tw140) (fun _ h9 => h9) rfl dX11_rounds_94 ?_
          refine R_alenJ hx hb (v := (500 : Int32)) hK hB rfl rfl dX11_rounds_97 ?_
          refine lv_icmp_ge (tgt := 117) hx hb dX11_rounds_98 (by decide) (fun c_19 => ?_) (fun c_19 => ?_)
          · replace h := itp h c_19
            exact hb_117 x4 x5 σ1 H locs ls h hB (lv_sub hl [1, 2, 3, 4, 5] rfl)
          · replace h := itn h c_19
            refine lv_aload_n hx hb dX11_rounds_101 rfl (lv_at hl 1 rfl) ?_
            refine R_get (v := .ref (gL g 35)) hx hb ht ui_X11 hown hK hB (by decide) (cell_0 rfl) rfl 10 (by decide) (ht _ tw140) (fun _ h9 => h9) rfl dX11_rounds_102 ?_
            refine lv_iload hx hb dX11_rounds_105 (lv_at hl 4 rfl) ?_
            refine lv_aload_n hx hb dX11_rounds_107 rfl (lv_at hl 1 rfl) ?_
            refine R_get (v := .ref (gL g 34)) hx hb ht ui_X11 hown hK hB (by decide) (cell_0 rfl) rfl 9 (by decide) (ht _ tw139) (fun _ h9 => h9) rfl dX11_rounds_108 ?_
            refine lv_iconst (v := 2) hx hb dX11_rounds_111 (by decide) ?_
            replace h := ck_eq h; obtain ⟨q_20, h⟩ := h
            refine R_lald hx hb hK hB rfl (inb_eq q_20) dX11_rounds_112 ?_
            replace h := ck_eq h; obtain ⟨q_21, h⟩ := h
            refine R_last hx hb hK hB rfl (inb_eq q_21) dX11_rounds_113 (fun H locs hB => ?_)
            refine lv_iinc (v := x4 + 1) (lv' := [(4, .int (x4 + 1)), (6, .int xt0), (0, .ref (gL g 0)), (2, .int x2), (3, .ref (P x3)), (5, .int x5)]) hx hb dX11_rounds_114 hl (k := 4) rfl rfl (by decide) rfl (fun ls hl => ?_)
            exact hb_117 (x4 + 1) x5 (sJ σ1 35 x4.toNatClampNeg (hJ σ1 34 (2 : Int32).toNatClampNeg)) H locs ls h hB (lv_sub hl [2, 3, 4, 0, 5] rfl)
      have hb_83 : ∀ (x4 : Int32) (x5 : Int32) (σ1 : Hp) (H : Heap) (locs : List Loc) (ls : Array Slot), f_X11_rounds_b83 x2 x3 x4 x5 σ1 = some z1 → tB g P σ1 A s.heap H locs → lv_has ls 7 [(0, .ref (gL g 0)), (2, .int x2), (3, .ref (P x3)), (4, .int x4), (5, .int x5)] → WQ p l e { frames := 4, cells := 0, slots := 0, locals := 112 } s m args below meth c g P A (some (.int r)) τ H locs (F0 m 83 ls []) := by
        intro x4 x5 σ1 H locs ls h hB hl
        unfold f_X11_rounds_b83 at h
        refine lv_iconst (v := 0) hx hb dX11_rounds_83 (by decide) ?_
        exact hb_84 x4 x5 (0 : Int32) σ1 H locs ls h hB (lv_sub hl [0, 1, 2, 3, 4] rfl)
      have h : f_X11_rounds_t44 x2 x3 x4 x5 σ1 = some z1 := hh1
      clear hh1
      unfold f_X11_rounds_t44 at h
      refine lv_iload hx hb dX11_rounds_44 (lv_at hl 4 rfl) ?_
      refine lv_iload_n hx hb dX11_rounds_46 rfl (lv_at hl 1 rfl) ?_
      refine lv_icmp_ge (tgt := 123) hx hb dX11_rounds_47 (by decide) (fun c_13 => ?_) (fun c_13 => ?_)
      · replace h := itp h c_13
        replace h := ex_eq h; obtain ⟨b1, h, hz1⟩ := h
        subst hz1
        have hz1 := (itk_inr hx1).symm
        subst hz1
        refine lv_iload hx hb dX11_rounds_123 (lv_at hl 3 rfl) ?_
        obtain ⟨rfl, rfl⟩ := Prod.mk.inj (Option.some.inj h)
        exact W.iret hx hb hr (R_end hB) hB.2.2.2.2 dX11_rounds_125
      · replace h := itn h c_13
        refine lv_aload_n hx hb dX11_rounds_50 rfl (lv_at hl 0 rfl) ?_
        refine lv_aload_n hx hb dX11_rounds_51 rfl (lv_at hl 2 rfl) ?_
        refine lv_iload hx hb dX11_rounds_52 (lv_at hl 4 rfl) ?_
        refine lv_i2l (v := x5.toInt64) hx hb dX11_rounds_54 rfl ?_
        replace h := b2_eq h; obtain ⟨r_14, s_15, hc_16, h⟩ := h
        refine R_call (rest := []) [.int r_14] (R_runV (n := 2) (As := [.ref (P x3), .long x5.toInt64]) ⟨hx, hb, hml, hown, ht⟩ (fun _ h9 => h9) hK hZ hA hB (c_X11_findRound l g P σ1 x3 x5.toInt64 H.size hc_16) (R_recv hK hB (by decide) (cell_0 rfl) rfl) tw698 tw695 tw697 pw17 tw1 ⟨by decide, by decide, by decide⟩ rfl rfl ⟨Nat.le_of_ble_eq_true rfl, Nat.le_of_ble_eq_true rfl⟩ rfl hl.1 rfl (Nat.le_of_ble_eq_true rfl) dX11_rounds_55 ⟨Nat.zero_le _, Nat.zero_le _⟩) hB hA rfl (fun H locs hB => ?_)
        refine lv_if_eq (tgt := 83) hx hb dX11_rounds_58 (by decide) (fun c_17 => ?_) (fun c_17 => ?_)
        · replace h := itp h c_17
          exact hb_83 x4 x5 s_15 H locs ls h hB (lv_sub hl [0, 1, 2, 3, 4] rfl)
        · replace h := itn h c_17
          refine lv_aload_n hx hb dX11_rounds_61 rfl (lv_at hl 0 rfl) ?_
          refine R_get (v := .ref (gL g 35)) hx hb ht ui_X11 hown hK hB (by decide) (cell_0 rfl) rfl 10 (by decide) (ht _ tw140) (fun _ h9 => h9) rfl dX11_rounds_62 ?_
          refine lv_iload hx hb dX11_rounds_65 (lv_at hl 3 rfl) ?_
          refine lv_aload_n hx hb dX11_rounds_67 rfl (lv_at hl 0 rfl) ?_
          refine R_get (v := .ref (gL g 34)) hx hb ht ui_X11 hown hK hB (by decide) (cell_0 rfl) rfl 9 (by decide) (ht _ tw139) (fun _ h9 => h9) rfl dX11_rounds_68 ?_
          refine lv_iconst (v := 2) hx hb dX11_rounds_71 (by decide) ?_
          replace h := ck_eq h; obtain ⟨q_22, h⟩ := h
          refine R_lald hx hb hK hB rfl (inb_eq q_22) dX11_rounds_72 ?_
          replace h := b2_eq h; obtain ⟨r_23, s_24, hc_25, h⟩ := h
          refine R_call (rest := []) [.int r_23] (R_runS (n := 3) (As := [.ref (gL g 35), .int x4, .long (hJ s_15 34 (2 : Int32).toNatClampNeg)]) ⟨hx, hb, hml, hown, ht⟩ (fun _ h9 => h9) hK hZ hA hB (c_X11_isAmong l g P s_15 35 x4 (hJ s_15 34 (2 : Int32).toNatClampNeg) rfl H.size hc_25) tw716 tw714 tw715 tw1 ⟨by decide, by decide, by decide⟩ rfl rfl ⟨Nat.le_of_ble_eq_true rfl, Nat.le_of_ble_eq_true rfl⟩ rfl hl.1 rfl (Nat.le_of_ble_eq_true rfl) dX11_rounds_73 ⟨Nat.zero_le _, Nat.zero_le _⟩) hB hA rfl (fun H locs hB => ?_)
          refine lv_if_ne (tgt := 83) hx hb dX11_rounds_76 (by decide) (fun c_26 => ?_) (fun c_26 => ?_)
          · replace h := itn h c_26
            exact hb_83 x4 x5 s_24 H locs ls h hB (lv_sub hl [0, 1, 2, 3, 4] rfl)
          · replace h := itp h c_26
            refine lv_iconst (v := 1) hx hb dX11_rounds_79 (by decide) ?_
            refine lv_goto (tgt := 84) hx hb dX11_rounds_80 (by decide) ?_
            exact hb_84 x4 x5 (1 : Int32) s_24 H locs ls h hB (lv_sub hl [0, 1, 2, 3, 4] rfl)
  suffices hmain : ∀ (H : Heap) (locs : List Loc) (ls : Array Slot), tB g P σ A s.heap H locs → lv_has ls 7 [(0, .ref (gL g 0)), (1, .int a1), (2, .int a2)] → WQ p l e { frames := 4, cells := 0, slots := 0, locals := 112 } s m args below meth c g P A (some (.int r)) τ H locs (F0 m 0 ls []) from hmain _ _ ls0 hB0 hl0
  intro H locs ls hB hl
  unfold f_X11_rounds at h
  refine lv_aload_n hx hb dX11_rounds_0 rfl (lv_at hl 0 rfl) ?_
  refine R_get (v := .ref (gL g 1)) hx hb ht ui_X11 hown hK hB (by decide) (cell_0 rfl) rfl 0 (by decide) (ht _ tw130) (fun _ h9 => h9) rfl dX11_rounds_1 ?_
  refine lv_iload_n hx hb dX11_rounds_4 rfl (lv_at hl 1 rfl) ?_
  replace h := b2_eq h; obtain ⟨r_1, s_2, hc_3, h⟩ := h
  refine R_call (rest := []) [va_rf (Option.map P r_1)] (R_runV (n := 1) (As := [.int a1]) ⟨hx, hb, hml, hown, ht⟩ (fun _ h9 => h9) hK hZ hA hB (c_X7_lawAt l g P σ 1 a1 rfl H.size hc_3) (R_recv hK hB (by decide) (cell_1 rfl) rfl) tw228 tw225 tw226 tw227 tw2 ⟨by decide, by decide, by decide⟩ rfl rfl ⟨Nat.le_of_ble_eq_true rfl, Nat.le_of_ble_eq_true rfl⟩ rfl hl.1 rfl (Nat.le_of_ble_eq_true rfl) dX11_rounds_5 ⟨Nat.zero_le _, Nat.zero_le _⟩) hB hA rfl (fun H locs hB => ?_)
  refine lv_astore_nR (lv' := [(3, va_rf (Option.map P r_1)), (0, .ref (gL g 0)), (1, .int a1), (2, .int a2)]) hx hb dX11_rounds_8 rfl hl (by decide) rfl (fun ls hl => ?_)
  refine lv_aload_nR hx hb dX11_rounds_9 rfl (lv_at hl 0 rfl) ?_
  rcases r_1 with _ | y_4
  · replace h := cs_n h
    have hl : lv_has ls 7 [(3, .null), (0, .ref (gL g 0)), (1, .int a1), (2, .int a2)] := hl
    refine lv_ifnonnullN hx hb dX11_rounds_10 ?_
    refine lv_aload_n hx hb dX11_rounds_13 rfl (lv_at hl 1 rfl) ?_
    refine lv_iconst (v := -1) hx hb dX11_rounds_14 (by decide) ?_
    replace h := b2_eq h; obtain ⟨r_5, s_6, hc_7, h⟩ := h
    refine R_call (rest := []) [.int r_5] (R_runV (n := 1) (As := [.int (-1 : Int32)]) ⟨hx, hb, hml, hown, ht⟩ (fun _ h9 => h9) hK hZ hA hB (c_X11_refuse l g P s_2 (-1 : Int32) H.size hc_7) (R_recv hK hB (by decide) (cell_0 rfl) rfl) tw178 tw175 tw177 pw1 tw1 ⟨by decide, by decide, by decide⟩ rfl rfl ⟨Nat.le_of_ble_eq_true rfl, Nat.le_of_ble_eq_true rfl⟩ rfl hl.1 rfl (Nat.le_of_ble_eq_true rfl) dX11_rounds_15 ⟨Nat.zero_le _, Nat.zero_le _⟩) hB hA rfl (fun H locs hB => ?_)
    obtain ⟨rfl, rfl⟩ := Prod.mk.inj (Option.some.inj h)
    exact W.iret hx hb hr (R_end hB) hB.2.2.2.2 dX11_rounds_18
  · replace h := cs_s h
    have hl : lv_has ls 7 [(3, .ref (P y_4)), (0, .ref (gL g 0)), (1, .int a1), (2, .int a2)] := hl
    refine lv_ifnonnull (tgt := 19) hx hb dX11_rounds_10 (by decide) ?_
    refine lv_iload_n hx hb dX11_rounds_19 rfl (lv_at hl 3 rfl) ?_
    refine lv_iconst (v := 1) hx hb dX11_rounds_20 (by decide) ?_
    refine lv_icmp_lt (tgt := 31) hx hb dX11_rounds_21 (by decide) (fun c_8 => ?_) (fun c_8 => ?_)
    · replace h := itp h c_8
      exact hb_31 s_2 H locs ls h hB (lv_sub hl [1] rfl)
    · replace h := itn h c_8
      refine lv_iload_n hx hb dX11_rounds_24 rfl (lv_at hl 3 rfl) ?_
      refine lv_sipush (v := 500) hx hb dX11_rounds_25 (by decide) ?_
      refine lv_icmp_le (tgt := 38) hx hb dX11_rounds_28 (by decide) (fun c_12 => ?_) (fun c_12 => ?_)
      · replace h := itp h c_12
        refine lv_iconst (v := 0) hx hb dX11_rounds_38 (by decide) ?_
        refine lv_istore (lv' := [(4, .int (0 : Int32)), (3, .ref (P y_4)), (0, .ref (gL g 0)), (1, .int a1), (2, .int a2)]) hx hb dX11_rounds_39 hl (by decide) rfl (fun ls hl => ?_)
        refine lv_iconst (v := 0) hx hb dX11_rounds_41 (by decide) ?_
        refine lv_istore (lv' := [(5, .int (0 : Int32)), (4, .int (0 : Int32)), (3, .ref (P y_4)), (0, .ref (gL g 0)), (1, .int a1), (2, .int a2)]) hx hb dX11_rounds_42 hl (by decide) rfl (fun ls hl => ?_)
        exact hL_44 a2 y_4 fuel (0 : Int32) (0 : Int32) s_2 H locs ls h hB (lv_sub hl [3, 5, 2, 1, 0] rfl)
      · replace h := itn h c_12
        exact hb_31 s_2 H locs ls h hB (lv_sub hl [1] rfl)
def f_X11_fit_b14 (σ1 : Hp) : Option (Int32 × Hp) := b2 (f_X11_refuse (-6 : Int32) σ1) (fun r_5 s_6 => some (r_5, s_6))
def f_X11_fit_b79 (x1 : Int64) (x3 : Int64) (x5 : Int32) (x6 : Int32) (σ1 : Hp) : Option ((Int32 × Int32 × Hp) ⊕ (Int32 × Hp)) := some (.inl (x5, (x6 + 1), σ1))
def f_X11_fit_t27 (x1 : Int64) (x3 : Int64) (x5 : Int32) (x6 : Int32) (σ1 : Hp) : Option ((Int32 × Int32 × Hp) ⊕ (Int32 × Hp)) := if (hI σ1 1 2) ≤ x6 then ex (some (x5, σ1)) else b2 (f_X7_lawAt 1 x6 σ1) (fun r_13 s_14 => cs r_13 (f_X11_fit_b79 x1 x3 x5 x6 s_14) (fun y_16 => ck (isLaw s_14 y_16 = true) (b2 (v_onward y_16 x1 1 s_14) (fun r_18 s_19 => if (lg_cmp r_18 x3) = 0 then f_X11_fit_b79 x1 x3 (x5 ||| ((1 : Int32) <<< (x6 &&& 31))) x6 s_19 else f_X11_fit_b79 x1 x3 x5 x6 s_19))))
def f_X11_fit_s27 (x1 : Int64) (x3 : Int64) (v : (Int32 × Int32 × Hp)) : Option ((Int32 × Int32 × Hp) ⊕ (Int32 × Hp)) := f_X11_fit_t27 x1 x3 v.1 v.2.1 v.2.2
def f_X11_fit (a1 : Int64) (a3 : Int64) (σ : Hp) : Option (Int32 × Hp) := b2 (f_X11_isNumber a1 σ) (fun r_1 s_2 => if r_1 = 0 then f_X11_fit_b14 s_2 else b2 (f_X11_isNumber a3 s_2) (fun r_8 s_9 => if r_8 = 0 then f_X11_fit_b14 s_9 else iter (f_X11_fit_s27 a1 a3) fuel ((0 : Int32), (0 : Int32), s_9)))
set_option maxHeartbeats 4000000 in
set_option maxRecDepth 100000 in
theorem c_X11_fit (l : Launch) (g : tG) (P : Nat → Nat) (σ : Hp) (a1 : Int64) (a3 : Int64) (sz : Nat) {r : Int32} {τ : Hp} (h : f_X11_fit a1 a3 σ = some (r, τ)) : Met l yX11_fit (Cond.code yX11_fit cX11_fit 8 (some .int) :: tblG) ({ frames := 3, cells := 0, slots := 0, locals := 85 }) (va_Pc [.ref (gL g 0), .long a1, .long a3] (tPre g P σ sz)) (tQ (some (.int r)) (tPost g P τ (va_A (wC g P σ) sz)) (va_A (wC g P σ) sz)) 0 0 (va_A (wC g P σ) sz) := by
  refine T_start (B := fun A => tPost g P τ A) (by decide) (Nat.le_of_ble_eq_true rfl) ?_
  intro p e s m args below meth c ls0 A hx hb hml hr hown hlocks ht hnm hK hZ hA hB0 hl0
  have hb_14 : ∀ (σ1 : Hp) (H : Heap) (locs : List Loc) (ls : Array Slot), f_X11_fit_b14 σ1 = some (r, τ) → tB g P σ1 A s.heap H locs → lv_has ls 8 [(0, .ref (gL g 0))] → WQ p l e { frames := 3, cells := 0, slots := 0, locals := 85 } s m args below meth c g P A (some (.int r)) τ H locs (F0 m 14 ls []) := by
    intro σ1 H locs ls h hB hl
    unfold f_X11_fit_b14 at h
    refine lv_aload_n hx hb dX11_fit_14 rfl (lv_at hl 0 rfl) ?_
    refine lv_bipush (v := -6) hx hb dX11_fit_15 (by decide) ?_
    replace h := b2_eq h; obtain ⟨r_5, s_6, hc_7, h⟩ := h
    refine R_call (rest := []) [.int r_5] (R_runV (n := 1) (As := [.int (-6 : Int32)]) ⟨hx, hb, hml, hown, ht⟩ (fun _ h9 => h9) hK hZ hA hB (c_X11_refuse l g P σ1 (-6 : Int32) H.size hc_7) (R_recv hK hB (by decide) (cell_0 rfl) rfl) tw178 tw175 tw177 pw1 tw1 ⟨by decide, by decide, by decide⟩ rfl rfl ⟨Nat.le_of_ble_eq_true rfl, Nat.le_of_ble_eq_true rfl⟩ rfl hl.1 rfl (Nat.le_of_ble_eq_true rfl) dX11_fit_17 ⟨Nat.zero_le _, Nat.zero_le _⟩) hB hA rfl (fun H locs hB => ?_)
    obtain ⟨rfl, rfl⟩ := Prod.mk.inj (Option.some.inj h)
    exact W.iret hx hb hr (R_end hB) hB.2.2.2.2 dX11_fit_20
  have hL_27 : ∀ (x1 : Int64) (x3 : Int64) (n : Nat) (x5 : Int32) (x6 : Int32) (σ1 : Hp) (H : Heap) (locs : List Loc) (ls : Array Slot), iter (f_X11_fit_s27 x1 x3) n (x5, x6, σ1) = some (r, τ) → tB g P σ1 A s.heap H locs → lv_has ls 8 [(0, .ref (gL g 0)), (1, .long x1), (3, .long x3), (5, .int x5), (6, .int x6)] → WQ p l e { frames := 3, cells := 0, slots := 0, locals := 85 } s m args below meth c g P A (some (.int r)) τ H locs (F0 m 27 ls []) := by
    intro x1 x3 n
    induction n with
    | zero =>
      intro x5 x6 σ1 H locs ls h hB hl
      exact (iter_0 h).elim
    | succ n ih1 =>
      intro x5 x6 σ1 H locs ls h hB hl
      replace h := iter_eq h; obtain ⟨z1, hh1, hx1⟩ := h
      have hb_79 : ∀ (x5 : Int32) (x6 : Int32) (σ1 : Hp) (H : Heap) (locs : List Loc) (ls : Array Slot), f_X11_fit_b79 x1 x3 x5 x6 σ1 = some z1 → tB g P σ1 A s.heap H locs → lv_has ls 8 [(0, .ref (gL g 0)), (1, .long x1), (3, .long x3), (5, .int x5), (6, .int x6)] → WQ p l e { frames := 3, cells := 0, slots := 0, locals := 85 } s m args below meth c g P A (some (.int r)) τ H locs (F0 m 79 ls []) := by
        intro x5 x6 σ1 H locs ls h hB hl
        unfold f_X11_fit_b79 at h
        refine lv_iinc (v := x6 + 1) (lv' := [(6, .int (x6 + 1)), (0, .ref (gL g 0)), (1, .long x1), (3, .long x3), (5, .int x5)]) hx hb dX11_fit_79 hl (k := 4) rfl rfl (by decide) rfl (fun ls hl => ?_)
        refine lv_goto (tgt := 27) hx hb dX11_fit_82 (by decide) ?_
        obtain rfl := Option.some.inj h
        exact ih1 x5 (x6 + 1) σ1 H locs ls hx1 hB (lv_sub hl [1, 2, 3, 4, 0] rfl)
      have h : f_X11_fit_t27 x1 x3 x5 x6 σ1 = some z1 := hh1
      clear hh1
      unfold f_X11_fit_t27 at h
      refine lv_iload hx hb dX11_fit_27 (lv_at hl 4 rfl) ?_
      refine lv_aload_n hx hb dX11_fit_29 rfl (lv_at hl 0 rfl) ?_
      refine R_get (v := .ref (gL g 1)) hx hb ht ui_X11 hown hK hB (by decide) (cell_0 rfl) rfl 0 (by decide) (ht _ tw130) (fun _ h9 => h9) rfl dX11_fit_30 ?_
      refine R_get (v := .int (hI σ1 1 2)) hx hb ht ui_X7 hown hK hB (by decide) (cell_1 rfl) rfl 2 (by decide) (ht _ tw51) (fun _ h9 => h9) rfl dX11_fit_33 ?_
      refine lv_icmp_ge (tgt := 85) hx hb dX11_fit_36 (by decide) (fun c_12 => ?_) (fun c_12 => ?_)
      · replace h := itp h c_12
        replace h := ex_eq h; obtain ⟨b1, h, hz1⟩ := h
        subst hz1
        have hz1 := (itk_inr hx1).symm
        subst hz1
        refine lv_iload hx hb dX11_fit_85 (lv_at hl 3 rfl) ?_
        obtain ⟨rfl, rfl⟩ := Prod.mk.inj (Option.some.inj h)
        exact W.iret hx hb hr (R_end hB) hB.2.2.2.2 dX11_fit_87
      · replace h := itn h c_12
        refine lv_aload_n hx hb dX11_fit_39 rfl (lv_at hl 0 rfl) ?_
        refine R_get (v := .ref (gL g 1)) hx hb ht ui_X11 hown hK hB (by decide) (cell_0 rfl) rfl 0 (by decide) (ht _ tw130) (fun _ h9 => h9) rfl dX11_fit_40 ?_
        refine lv_iload hx hb dX11_fit_43 (lv_at hl 4 rfl) ?_
        replace h := b2_eq h; obtain ⟨r_13, s_14, hc_15, h⟩ := h
        refine R_call (rest := []) [va_rf (Option.map P r_13)] (R_runV (n := 1) (As := [.int x6]) ⟨hx, hb, hml, hown, ht⟩ (fun _ h9 => h9) hK hZ hA hB (c_X7_lawAt l g P σ1 1 x6 rfl H.size hc_15) (R_recv hK hB (by decide) (cell_1 rfl) rfl) tw228 tw225 tw226 tw227 tw2 ⟨by decide, by decide, by decide⟩ rfl rfl ⟨Nat.le_of_ble_eq_true rfl, Nat.le_of_ble_eq_true rfl⟩ rfl hl.1 rfl (Nat.le_of_ble_eq_true rfl) dX11_fit_45 ⟨Nat.zero_le _, Nat.zero_le _⟩) hB hA rfl (fun H locs hB => ?_)
        refine lv_astoreR (lv' := [(7, va_rf (Option.map P r_13)), (0, .ref (gL g 0)), (1, .long x1), (3, .long x3), (5, .int x5), (6, .int x6)]) hx hb dX11_fit_48 hl (by decide) rfl (fun ls hl => ?_)
        refine lv_aloadR hx hb dX11_fit_50 (lv_at hl 0 rfl) ?_
        rcases r_13 with _ | y_16
        · replace h := cs_n h
          have hl : lv_has ls 8 [(7, .null), (0, .ref (gL g 0)), (1, .long x1), (3, .long x3), (5, .int x5), (6, .int x6)] := hl
          refine lv_ifnullN (tgt := 79) hx hb dX11_fit_52 (by decide) ?_
          exact hb_79 x5 x6 s_14 H locs ls h hB (lv_sub hl [1, 2, 3, 4, 5] rfl)
        · replace h := cs_s h
          have hl : lv_has ls 8 [(7, .ref (P y_16)), (0, .ref (gL g 0)), (1, .long x1), (3, .long x3), (5, .int x5), (6, .int x6)] := hl
          refine lv_ifnull hx hb dX11_fit_52 ?_
          refine lv_aload hx hb dX11_fit_55 (lv_at hl 0 rfl) ?_
          refine lv_lload_n hx hb dX11_fit_57 rfl (lv_at hl 2 rfl) ?_
          refine lv_aload_n hx hb dX11_fit_58 rfl (lv_at hl 1 rfl) ?_
          refine R_get (v := .ref (gL g 1)) hx hb ht ui_X11 hown hK hB (by decide) (cell_0 rfl) rfl 0 (by decide) (ht _ tw130) (fun _ h9 => h9) rfl dX11_fit_59 ?_
          replace h := ck_eq h; obtain ⟨q_17, h⟩ := h
          replace h := b2_eq h; obtain ⟨r_18, s_19, hc_20, h⟩ := h
          refine R_call (rest := []) [.long r_18] (dv_onward ⟨hx, hb, hml, hown, ht⟩ hK hZ hA hB q_17 rfl tw281 hc_20 (Nat.le_of_ble_eq_true rfl) (Nat.le_of_ble_eq_true rfl) hl.1 rfl (Nat.le_of_ble_eq_true rfl) dX11_fit_62 (Nat.zero_le _) (Nat.zero_le _)) hB hA rfl (fun H locs hB => ?_)
          refine lv_lload_n hx hb dX11_fit_65 rfl (lv_at hl 3 rfl) ?_
          refine W.lcmp hx hb dX11_fit_66 ?_
          refine lv_if_ne (tgt := 79) hx hb dX11_fit_67 (by decide) (fun c_21 => ?_) (fun c_21 => ?_)
          · replace h := itn h c_21
            exact hb_79 x5 x6 s_19 H locs ls h hB (lv_sub hl [1, 2, 3, 4, 5] rfl)
          · replace h := itp h c_21
            refine lv_iload hx hb dX11_fit_70 (lv_at hl 4 rfl) ?_
            refine lv_iconst (v := 1) hx hb dX11_fit_72 (by decide) ?_
            refine lv_iload hx hb dX11_fit_73 (lv_at hl 5 rfl) ?_
            refine lv_ishl hx hb dX11_fit_75 ?_
            refine lv_ior hx hb dX11_fit_76 ?_
            refine lv_istore (lv' := [(5, .int (x5 ||| ((1 : Int32) <<< (x6 &&& 31)))), (7, .ref (P y_16)), (0, .ref (gL g 0)), (1, .long x1), (3, .long x3), (6, .int x6)]) hx hb dX11_fit_77 hl (by decide) rfl (fun ls hl => ?_)
            exact hb_79 (x5 ||| ((1 : Int32) <<< (x6 &&& 31))) x6 s_19 H locs ls h hB (lv_sub hl [2, 3, 4, 0, 5] rfl)
  suffices hmain : ∀ (H : Heap) (locs : List Loc) (ls : Array Slot), tB g P σ A s.heap H locs → lv_has ls 8 [(0, .ref (gL g 0)), (1, .long a1), (3, .long a3)] → WQ p l e { frames := 3, cells := 0, slots := 0, locals := 85 } s m args below meth c g P A (some (.int r)) τ H locs (F0 m 0 ls []) from hmain _ _ ls0 hB0 hl0
  intro H locs ls hB hl
  unfold f_X11_fit at h
  refine lv_lload_n hx hb dX11_fit_0 rfl (lv_at hl 1 rfl) ?_
  replace h := b2_eq h; obtain ⟨r_1, s_2, hc_3, h⟩ := h
  refine R_call (rest := []) [.int r_1] (R_runS (n := 1) (As := [.long a1]) ⟨hx, hb, hml, hown, ht⟩ (fun _ h9 => h9) hK hZ hA hB (c_X11_isNumber l g P σ a1 H.size hc_3) tw622 tw620 tw621 tw1 ⟨by decide, by decide, by decide⟩ rfl rfl ⟨Nat.le_of_ble_eq_true rfl, Nat.le_of_ble_eq_true rfl⟩ rfl hl.1 rfl (Nat.le_of_ble_eq_true rfl) dX11_fit_1 ⟨Nat.zero_le _, Nat.zero_le _⟩) hB hA rfl (fun H locs hB => ?_)
  refine lv_if_eq (tgt := 14) hx hb dX11_fit_4 (by decide) (fun c_4 => ?_) (fun c_4 => ?_)
  · replace h := itp h c_4
    exact hb_14 s_2 H locs ls h hB (lv_sub hl [0] rfl)
  · replace h := itn h c_4
    refine lv_lload_n hx hb dX11_fit_7 rfl (lv_at hl 2 rfl) ?_
    replace h := b2_eq h; obtain ⟨r_8, s_9, hc_10, h⟩ := h
    refine R_call (rest := []) [.int r_8] (R_runS (n := 1) (As := [.long a3]) ⟨hx, hb, hml, hown, ht⟩ (fun _ h9 => h9) hK hZ hA hB (c_X11_isNumber l g P s_2 a3 H.size hc_10) tw622 tw620 tw621 tw1 ⟨by decide, by decide, by decide⟩ rfl rfl ⟨Nat.le_of_ble_eq_true rfl, Nat.le_of_ble_eq_true rfl⟩ rfl hl.1 rfl (Nat.le_of_ble_eq_true rfl) dX11_fit_8 ⟨Nat.zero_le _, Nat.zero_le _⟩) hB hA rfl (fun H locs hB => ?_)
    refine lv_if_ne (tgt := 21) hx hb dX11_fit_11 (by decide) (fun c_11 => ?_) (fun c_11 => ?_)
    · replace h := itn h c_11
      refine lv_iconst (v := 0) hx hb dX11_fit_21 (by decide) ?_
      refine lv_istore (lv' := [(5, .int (0 : Int32)), (0, .ref (gL g 0)), (1, .long a1), (3, .long a3)]) hx hb dX11_fit_22 hl (by decide) rfl (fun ls hl => ?_)
      refine lv_iconst (v := 0) hx hb dX11_fit_24 (by decide) ?_
      refine lv_istore (lv' := [(6, .int (0 : Int32)), (5, .int (0 : Int32)), (0, .ref (gL g 0)), (1, .long a1), (3, .long a3)]) hx hb dX11_fit_25 hl (by decide) rfl (fun ls hl => ?_)
      exact hL_27 a1 a3 fuel (0 : Int32) (0 : Int32) s_9 H locs ls h hB (lv_sub hl [2, 3, 4, 1, 0] rfl)
    · replace h := itp h c_11
      exact hb_14 s_9 H locs ls h hB (lv_sub hl [0] rfl)
def f_X11_refusalOfSlate_b39 (σ1 : Hp) : Option (Int32 × Hp) := some ((-6 : Int32), σ1)
def f_X11_refusalOfSlate (k0 : Nat) (a1 : Int32) (σ : Hp) : Option (Int32 × Hp) := b2 (f_X5_refusalOfRow k0 σ) (fun r_1 s_2 => if r_1 = 0 then if 0 ≤ a1 then if a1 ≤ (hI s_2 k0 2) then if a1 = 0 then f_X11_refusalOfSlate_b39 s_2 else if a1 ≤ (20 : Int32) then some ((0 : Int32), s_2) else f_X11_refusalOfSlate_b39 s_2 else some ((-5 : Int32), s_2) else some ((-4 : Int32), s_2) else some (r_1, s_2))
set_option maxHeartbeats 4000000 in
set_option maxRecDepth 100000 in
theorem c_X11_refusalOfSlate (l : Launch) (g : tG) (P : Nat → Nat) (σ : Hp) (k0 : Nat) (a1 : Int32) (hk_k0 : ky k0 = 6) (sz : Nat) {r : Int32} {τ : Hp} (h : f_X11_refusalOfSlate k0 a1 σ = some (r, τ)) : Met l yX11_refusalOfSlate (Cond.code yX11_refusalOfSlate cX11_refusalOfSlate 3 (some .int) :: tblG) ({ frames := 1, cells := 0, slots := 0, locals := 20 }) (va_Pc [.ref (gL g k0), .int a1] (tPre g P σ sz)) (tQ (some (.int r)) (tPost g P τ (va_A (wC g P σ) sz)) (va_A (wC g P σ) sz)) 0 0 (va_A (wC g P σ) sz) := by
  refine T_start (B := fun A => tPost g P τ A) (by decide) (Nat.le_of_ble_eq_true rfl) ?_
  intro p e s m args below meth c ls0 A hx hb hml hr hown hlocks ht hnm hK hZ hA hB0 hl0
  have hb_39 : ∀ (σ1 : Hp) (H : Heap) (locs : List Loc) (ls : Array Slot), f_X11_refusalOfSlate_b39 σ1 = some (r, τ) → tB g P σ1 A s.heap H locs → lv_has ls 3 [] → WQ p l e { frames := 1, cells := 0, slots := 0, locals := 20 } s m args below meth c g P A (some (.int r)) τ H locs (F0 m 39 ls []) := by
    intro σ1 H locs ls h hB hl
    unfold f_X11_refusalOfSlate_b39 at h
    refine lv_bipush (v := -6) hx hb dX11_refusalOfSlate_39 (by decide) ?_
    refine lv_goto (tgt := 45) hx hb dX11_refusalOfSlate_41 (by decide) ?_
    obtain ⟨rfl, rfl⟩ := Prod.mk.inj (Option.some.inj h)
    exact W.iret hx hb hr (R_end hB) hB.2.2.2.2 dX11_refusalOfSlate_45
  suffices hmain : ∀ (H : Heap) (locs : List Loc) (ls : Array Slot), tB g P σ A s.heap H locs → lv_has ls 3 [(0, .ref (gL g k0)), (1, .int a1)] → WQ p l e { frames := 1, cells := 0, slots := 0, locals := 20 } s m args below meth c g P A (some (.int r)) τ H locs (F0 m 0 ls []) from hmain _ _ ls0 hB0 hl0
  intro H locs ls hB hl
  unfold f_X11_refusalOfSlate at h
  refine lv_aload_n hx hb dX11_refusalOfSlate_0 rfl (lv_at hl 0 rfl) ?_
  replace h := b2_eq h; obtain ⟨r_1, s_2, hc_3, h⟩ := h
  refine R_call (rest := []) [.int r_1] (R_runV (n := 0) (As := []) ⟨hx, hb, hml, hown, ht⟩ (fun _ h9 => h9) hK hZ hA hB (c_X5_refusalOfRow l g P σ k0 hk_k0 H.size hc_3) (R_recv hK hB (ky_in _ (by rw [hk_k0]; decide)) (cell_6 hk_k0) rfl) tw193 tw190 tw191 tw192 tw3 ⟨by decide, by decide, by decide⟩ rfl rfl ⟨Nat.le_of_ble_eq_true rfl, Nat.le_of_ble_eq_true rfl⟩ rfl hl.1 rfl (Nat.le_of_ble_eq_true rfl) dX11_refusalOfSlate_1 ⟨Nat.zero_le _, Nat.zero_le _⟩) hB hA rfl (fun H locs hB => ?_)
  refine lv_istore_n (lv' := [(2, .int r_1), (0, .ref (gL g k0)), (1, .int a1)]) hx hb dX11_refusalOfSlate_4 rfl hl (by decide) rfl (fun ls hl => ?_)
  refine lv_iload_n hx hb dX11_refusalOfSlate_5 rfl (lv_at hl 0 rfl) ?_
  refine lv_if_eq (tgt := 11) hx hb dX11_refusalOfSlate_6 (by decide) (fun c_4 => ?_) (fun c_4 => ?_)
  · replace h := itp h c_4
    refine lv_iload_n hx hb dX11_refusalOfSlate_11 rfl (lv_at hl 2 rfl) ?_
    refine lv_if_ge (tgt := 18) hx hb dX11_refusalOfSlate_12 (by decide) (fun c_5 => ?_) (fun c_5 => ?_)
    · replace h := itp h c_5
      refine lv_iload_n hx hb dX11_refusalOfSlate_18 rfl (lv_at hl 2 rfl) ?_
      refine lv_aload_n hx hb dX11_refusalOfSlate_19 rfl (lv_at hl 1 rfl) ?_
      refine R_get (v := .int (hI s_2 k0 2)) hx hb ht ui_X5 hown hK hB (ky_in _ (by rw [hk_k0]; decide)) (cell_6 hk_k0) rfl 2 (by decide) (ht _ tw89) (fun _ h9 => h9) rfl dX11_refusalOfSlate_20 ?_
      refine lv_icmp_le (tgt := 29) hx hb dX11_refusalOfSlate_23 (by decide) (fun c_6 => ?_) (fun c_6 => ?_)
      · replace h := itp h c_6
        refine lv_iload_n hx hb dX11_refusalOfSlate_29 rfl (lv_at hl 2 rfl) ?_
        refine lv_if_eq (tgt := 39) hx hb dX11_refusalOfSlate_30 (by decide) (fun c_7 => ?_) (fun c_7 => ?_)
        · replace h := itp h c_7
          exact hb_39 s_2 H locs ls h hB (lv_sub hl [] rfl)
        · replace h := itn h c_7
          refine lv_iload_n hx hb dX11_refusalOfSlate_33 rfl (lv_at hl 2 rfl) ?_
          refine lv_bipush (v := 20) hx hb dX11_refusalOfSlate_34 (by decide) ?_
          refine lv_icmp_le (tgt := 44) hx hb dX11_refusalOfSlate_36 (by decide) (fun c_8 => ?_) (fun c_8 => ?_)
          · replace h := itp h c_8
            refine lv_iconst (v := 0) hx hb dX11_refusalOfSlate_44 (by decide) ?_
            obtain ⟨rfl, rfl⟩ := Prod.mk.inj (Option.some.inj h)
            exact W.iret hx hb hr (R_end hB) hB.2.2.2.2 dX11_refusalOfSlate_45
          · replace h := itn h c_8
            exact hb_39 s_2 H locs ls h hB (lv_sub hl [] rfl)
      · replace h := itn h c_6
        refine lv_bipush (v := -5) hx hb dX11_refusalOfSlate_26 (by decide) ?_
        obtain ⟨rfl, rfl⟩ := Prod.mk.inj (Option.some.inj h)
        exact W.iret hx hb hr (R_end hB) hB.2.2.2.2 dX11_refusalOfSlate_28
    · replace h := itn h c_5
      refine lv_bipush (v := -4) hx hb dX11_refusalOfSlate_15 (by decide) ?_
      obtain ⟨rfl, rfl⟩ := Prod.mk.inj (Option.some.inj h)
      exact W.iret hx hb hr (R_end hB) hB.2.2.2.2 dX11_refusalOfSlate_17
  · replace h := itn h c_4
    refine lv_iload_n hx hb dX11_refusalOfSlate_9 rfl (lv_at hl 0 rfl) ?_
    obtain ⟨rfl, rfl⟩ := Prod.mk.inj (Option.some.inj h)
    exact W.iret hx hb hr (R_end hB) hB.2.2.2.2 dX11_refusalOfSlate_10
def f_X11_firstWrong_b55 (x1 : Nat) (x2 : Nat) (x3 : Int32) (x4 : Int32) (σ1 : Hp) : Option ((Int32 × Hp) ⊕ (Int32 × Hp)) := some (.inl ((x4 + 1), σ1))
def f_X11_firstWrong_t3 (x1 : Nat) (x2 : Nat) (x3 : Int32) (x4 : Int32) (σ1 : Hp) : Option ((Int32 × Hp) ⊕ (Int32 × Hp)) := if x3 ≤ x4 then ex (some ((-1 : Int32), σ1)) else b2 (f_X5_elementAt x2 x4 σ1) (fun r_2 s_3 => b2 (f_X11_isNumber r_2 s_3) (fun r_5 s_6 => if r_5 = 0 then ex (some (x4, s_6)) else if x4 ≤ 0 then f_X11_firstWrong_b55 x1 x2 x3 x4 s_6 else b2 (f_X5_elementAt x2 (x4 - (1 : Int32)) s_6) (fun r_10 s_11 => ck (isLaw s_11 x1 = true) (b2 (v_onward x1 r_10 1 s_11) (fun r_14 s_15 => if (lg_cmp r_14 r_2) = 0 then f_X11_firstWrong_b55 x1 x2 x3 x4 s_15 else ex (some (x4, s_15)))))))
def f_X11_firstWrong_s3 (x1 : Nat) (x2 : Nat) (x3 : Int32) (v : (Int32 × Hp)) : Option ((Int32 × Hp) ⊕ (Int32 × Hp)) := f_X11_firstWrong_t3 x1 x2 x3 v.1 v.2
def f_X11_firstWrong (j1 : Nat) (k2 : Nat) (a3 : Int32) (σ : Hp) : Option (Int32 × Hp) := iter (f_X11_firstWrong_s3 j1 k2 a3) fuel ((0 : Int32), σ)
set_option maxHeartbeats 4000000 in
set_option maxRecDepth 100000 in
theorem c_X11_firstWrong (l : Launch) (g : tG) (P : Nat → Nat) (σ : Hp) (j1 : Nat) (k2 : Nat) (a3 : Int32) (hk_k2 : ky k2 = 6) (sz : Nat) {r : Int32} {τ : Hp} (h : f_X11_firstWrong j1 k2 a3 σ = some (r, τ)) : Met l yX11_firstWrong (Cond.code yX11_firstWrong cX11_firstWrong 7 (some .int) :: tblG) ({ frames := 3, cells := 0, slots := 0, locals := 85 }) (va_Pc [.ref (gL g 0), .ref (P j1), .ref (gL g k2), .int a3] (tPre g P σ sz)) (tQ (some (.int r)) (tPost g P τ (va_A (wC g P σ) sz)) (va_A (wC g P σ) sz)) 0 0 (va_A (wC g P σ) sz) := by
  refine T_start (B := fun A => tPost g P τ A) (by decide) (Nat.le_of_ble_eq_true rfl) ?_
  intro p e s m args below meth c ls0 A hx hb hml hr hown hlocks ht hnm hK hZ hA hB0 hl0
  have hL_3 : ∀ (x1 : Nat) (x2 : Nat) (x3 : Int32) (hk_x2 : ky x2 = 6) (n : Nat) (x4 : Int32) (σ1 : Hp) (H : Heap) (locs : List Loc) (ls : Array Slot), iter (f_X11_firstWrong_s3 x1 x2 x3) n (x4, σ1) = some (r, τ) → tB g P σ1 A s.heap H locs → lv_has ls 7 [(0, .ref (gL g 0)), (1, .ref (P x1)), (2, .ref (gL g x2)), (3, .int x3), (4, .int x4)] → WQ p l e { frames := 3, cells := 0, slots := 0, locals := 85 } s m args below meth c g P A (some (.int r)) τ H locs (F0 m 3 ls []) := by
    intro x1 x2 x3 hk_x2 n
    induction n with
    | zero =>
      intro x4 σ1 H locs ls h hB hl
      exact (iter_0 h).elim
    | succ n ih1 =>
      intro x4 σ1 H locs ls h hB hl
      replace h := iter_eq h; obtain ⟨z1, hh1, hx1⟩ := h
      have hb_55 : ∀ (x4 : Int32) (σ1 : Hp) (H : Heap) (locs : List Loc) (ls : Array Slot), f_X11_firstWrong_b55 x1 x2 x3 x4 σ1 = some z1 → tB g P σ1 A s.heap H locs → lv_has ls 7 [(0, .ref (gL g 0)), (1, .ref (P x1)), (2, .ref (gL g x2)), (3, .int x3), (4, .int x4)] → WQ p l e { frames := 3, cells := 0, slots := 0, locals := 85 } s m args below meth c g P A (some (.int r)) τ H locs (F0 m 55 ls []) := by
        intro x4 σ1 H locs ls h hB hl
        unfold f_X11_firstWrong_b55 at h
        refine lv_iinc (v := x4 + 1) (lv' := [(4, .int (x4 + 1)), (0, .ref (gL g 0)), (1, .ref (P x1)), (2, .ref (gL g x2)), (3, .int x3)]) hx hb dX11_firstWrong_55 hl (k := 4) rfl rfl (by decide) rfl (fun ls hl => ?_)
        refine lv_goto (tgt := 3) hx hb dX11_firstWrong_58 (by decide) ?_
        obtain rfl := Option.some.inj h
        exact ih1 (x4 + 1) σ1 H locs ls hx1 hB (lv_sub hl [1, 2, 3, 4, 0] rfl)
      have h : f_X11_firstWrong_t3 x1 x2 x3 x4 σ1 = some z1 := hh1
      clear hh1
      unfold f_X11_firstWrong_t3 at h
      refine lv_iload hx hb dX11_firstWrong_3 (lv_at hl 4 rfl) ?_
      refine lv_iload_n hx hb dX11_firstWrong_5 rfl (lv_at hl 3 rfl) ?_
      refine lv_icmp_ge (tgt := 61) hx hb dX11_firstWrong_6 (by decide) (fun c_1 => ?_) (fun c_1 => ?_)
      · replace h := itp h c_1
        replace h := ex_eq h; obtain ⟨b1, h, hz1⟩ := h
        subst hz1
        have hz1 := (itk_inr hx1).symm
        subst hz1
        refine lv_iconst (v := -1) hx hb dX11_firstWrong_61 (by decide) ?_
        obtain ⟨rfl, rfl⟩ := Prod.mk.inj (Option.some.inj h)
        exact W.iret hx hb hr (R_end hB) hB.2.2.2.2 dX11_firstWrong_62
      · replace h := itn h c_1
        refine lv_aload_n hx hb dX11_firstWrong_9 rfl (lv_at hl 2 rfl) ?_
        refine lv_iload hx hb dX11_firstWrong_10 (lv_at hl 4 rfl) ?_
        replace h := b2_eq h; obtain ⟨r_2, s_3, hc_4, h⟩ := h
        refine R_call (rest := []) [.long r_2] (R_runV (n := 1) (As := [.int x4]) ⟨hx, hb, hml, hown, ht⟩ (fun _ h9 => h9) hK hZ hA hB (c_X5_elementAt l g P σ1 x2 x4 hk_x2 H.size hc_4) (R_recv hK hB (ky_in _ (by rw [hk_x2]; decide)) (cell_6 hk_x2) rfl) tw220 tw217 tw218 tw219 tw3 ⟨by decide, by decide, by decide⟩ rfl rfl ⟨Nat.le_of_ble_eq_true rfl, Nat.le_of_ble_eq_true rfl⟩ rfl hl.1 rfl (Nat.le_of_ble_eq_true rfl) dX11_firstWrong_12 ⟨Nat.zero_le _, Nat.zero_le _⟩) hB hA rfl (fun H locs hB => ?_)
        refine lv_lstore (lv' := [(5, .long r_2), (0, .ref (gL g 0)), (1, .ref (P x1)), (2, .ref (gL g x2)), (3, .int x3), (4, .int x4)]) hx hb dX11_firstWrong_15 hl (by decide) rfl (fun ls hl => ?_)
        refine lv_lload hx hb dX11_firstWrong_17 (lv_at hl 0 rfl) ?_
        replace h := b2_eq h; obtain ⟨r_5, s_6, hc_7, h⟩ := h
        refine R_call (rest := []) [.int r_5] (R_runS (n := 1) (As := [.long r_2]) ⟨hx, hb, hml, hown, ht⟩ (fun _ h9 => h9) hK hZ hA hB (c_X11_isNumber l g P s_3 r_2 H.size hc_7) tw622 tw620 tw621 tw1 ⟨by decide, by decide, by decide⟩ rfl rfl ⟨Nat.le_of_ble_eq_true rfl, Nat.le_of_ble_eq_true rfl⟩ rfl hl.1 rfl (Nat.le_of_ble_eq_true rfl) dX11_firstWrong_19 ⟨Nat.zero_le _, Nat.zero_le _⟩) hB hA rfl (fun H locs hB => ?_)
        refine lv_if_eq (tgt := 52) hx hb dX11_firstWrong_22 (by decide) (fun c_8 => ?_) (fun c_8 => ?_)
        · replace h := itp h c_8
          replace h := ex_eq h; obtain ⟨b1, h, hz1⟩ := h
          subst hz1
          have hz1 := (itk_inr hx1).symm
          subst hz1
          refine lv_iload hx hb dX11_firstWrong_52 (lv_at hl 5 rfl) ?_
          obtain ⟨rfl, rfl⟩ := Prod.mk.inj (Option.some.inj h)
          exact W.iret hx hb hr (R_end hB) hB.2.2.2.2 dX11_firstWrong_54
        · replace h := itn h c_8
          refine lv_iload hx hb dX11_firstWrong_25 (lv_at hl 5 rfl) ?_
          refine lv_if_le (tgt := 55) hx hb dX11_firstWrong_27 (by decide) (fun c_9 => ?_) (fun c_9 => ?_)
          · replace h := itp h c_9
            exact hb_55 x4 s_6 H locs ls h hB (lv_sub hl [1, 2, 3, 4, 5] rfl)
          · replace h := itn h c_9
            refine lv_aload_n hx hb dX11_firstWrong_30 rfl (lv_at hl 2 rfl) ?_
            refine lv_aload_n hx hb dX11_firstWrong_31 rfl (lv_at hl 3 rfl) ?_
            refine lv_iload hx hb dX11_firstWrong_32 (lv_at hl 5 rfl) ?_
            refine lv_iconst (v := 1) hx hb dX11_firstWrong_34 (by decide) ?_
            refine lv_isub hx hb dX11_firstWrong_35 ?_
            replace h := b2_eq h; obtain ⟨r_10, s_11, hc_12, h⟩ := h
            refine R_call (rest := [.ref (P x1)]) [.long r_10, .ref (P x1)] (R_runV (n := 1) (As := [.int (x4 - (1 : Int32))]) ⟨hx, hb, hml, hown, ht⟩ (fun _ h9 => h9) hK hZ hA hB (c_X5_elementAt l g P s_6 x2 (x4 - (1 : Int32)) hk_x2 H.size hc_12) (R_recv hK hB (ky_in _ (by rw [hk_x2]; decide)) (cell_6 hk_x2) rfl) tw220 tw217 tw218 tw219 tw3 ⟨by decide, by decide, by decide⟩ rfl rfl ⟨Nat.le_of_ble_eq_true rfl, Nat.le_of_ble_eq_true rfl⟩ rfl hl.1 rfl (Nat.le_of_ble_eq_true rfl) dX11_firstWrong_36 ⟨Nat.zero_le _, Nat.zero_le _⟩) hB hA rfl (fun H locs hB => ?_)
            refine lv_aload_n hx hb dX11_firstWrong_39 rfl (lv_at hl 1 rfl) ?_
            refine R_get (v := .ref (gL g 1)) hx hb ht ui_X11 hown hK hB (by decide) (cell_0 rfl) rfl 0 (by decide) (ht _ tw130) (fun _ h9 => h9) rfl dX11_firstWrong_40 ?_
            replace h := ck_eq h; obtain ⟨q_13, h⟩ := h
            replace h := b2_eq h; obtain ⟨r_14, s_15, hc_16, h⟩ := h
            refine R_call (rest := []) [.long r_14] (dv_onward ⟨hx, hb, hml, hown, ht⟩ hK hZ hA hB q_13 rfl tw281 hc_16 (Nat.le_of_ble_eq_true rfl) (Nat.le_of_ble_eq_true rfl) hl.1 rfl (Nat.le_of_ble_eq_true rfl) dX11_firstWrong_43 (Nat.zero_le _) (Nat.zero_le _)) hB hA rfl (fun H locs hB => ?_)
            refine lv_lload hx hb dX11_firstWrong_46 (lv_at hl 0 rfl) ?_
            refine W.lcmp hx hb dX11_firstWrong_48 ?_
            refine lv_if_eq (tgt := 55) hx hb dX11_firstWrong_49 (by decide) (fun c_17 => ?_) (fun c_17 => ?_)
            · replace h := itp h c_17
              exact hb_55 x4 s_15 H locs ls h hB (lv_sub hl [1, 2, 3, 4, 5] rfl)
            · replace h := itn h c_17
              replace h := ex_eq h; obtain ⟨b1, h, hz1⟩ := h
              subst hz1
              have hz1 := (itk_inr hx1).symm
              subst hz1
              refine lv_iload hx hb dX11_firstWrong_52 (lv_at hl 5 rfl) ?_
              obtain ⟨rfl, rfl⟩ := Prod.mk.inj (Option.some.inj h)
              exact W.iret hx hb hr (R_end hB) hB.2.2.2.2 dX11_firstWrong_54
  suffices hmain : ∀ (H : Heap) (locs : List Loc) (ls : Array Slot), tB g P σ A s.heap H locs → lv_has ls 7 [(0, .ref (gL g 0)), (1, .ref (P j1)), (2, .ref (gL g k2)), (3, .int a3)] → WQ p l e { frames := 3, cells := 0, slots := 0, locals := 85 } s m args below meth c g P A (some (.int r)) τ H locs (F0 m 0 ls []) from hmain _ _ ls0 hB0 hl0
  intro H locs ls hB hl
  unfold f_X11_firstWrong at h
  refine lv_iconst (v := 0) hx hb dX11_firstWrong_0 (by decide) ?_
  refine lv_istore (lv' := [(4, .int (0 : Int32)), (0, .ref (gL g 0)), (1, .ref (P j1)), (2, .ref (gL g k2)), (3, .int a3)]) hx hb dX11_firstWrong_1 hl (by decide) rfl (fun ls hl => ?_)
  exact hL_3 j1 k2 a3 hk_k2 fuel (0 : Int32) σ H locs ls h hB (lv_sub hl [1, 2, 3, 4, 0] rfl)
def f_X11_judge_b27 (σ1 : Hp) : Option (Int32 × Hp) := b2 (f_X11_refuse (-1 : Int32) σ1) (fun r_8 s_9 => some ((r_8 - (10 : Int32)), s_9))
def f_X11_judge (a1 : Int32) (a2 : Int32) (a3 : Int32) (σ : Hp) : Option (Int32 × Hp) := b2 (f_X7_lawAt 1 a1 σ) (fun r_1 s_2 => b2 (f_X11_shelfAt a2 s_2) (fun r_4 s_5 => cs r_1 (f_X11_judge_b27 s_5) (fun y_7 => cs r_4 (f_X11_judge_b27 s_5) (fun y_11 => ck (ky y_11 = 6) (b2 (f_X11_refusalOfSlate y_11 a3 s_5) (fun r_13 s_14 => if r_13 = 0 then b2 (f_X11_firstWrong y_7 y_11 a3 s_14) (fun r_17 s_18 => some (r_17, s_18)) else b2 (f_X11_refuse r_13 s_14) (fun r_20 s_21 => some ((r_20 - (10 : Int32)), s_21))))))))
set_option maxHeartbeats 4000000 in
set_option maxRecDepth 100000 in
theorem c_X11_judge (l : Launch) (g : tG) (P : Nat → Nat) (σ : Hp) (a1 : Int32) (a2 : Int32) (a3 : Int32) (sz : Nat) {r : Int32} {τ : Hp} (h : f_X11_judge a1 a2 a3 σ = some (r, τ)) : Met l yX11_judge (Cond.code yX11_judge cX11_judge 7 (some .int) :: tblG) ({ frames := 4, cells := 0, slots := 0, locals := 111 }) (va_Pc [.ref (gL g 0), .int a1, .int a2, .int a3] (tPre g P σ sz)) (tQ (some (.int r)) (tPost g P τ (va_A (wC g P σ) sz)) (va_A (wC g P σ) sz)) 0 0 (va_A (wC g P σ) sz) := by
  refine T_start (B := fun A => tPost g P τ A) (by decide) (Nat.le_of_ble_eq_true rfl) ?_
  intro p e s m args below meth c ls0 A hx hb hml hr hown hlocks ht hnm hK hZ hA hB0 hl0
  have hb_27 : ∀ (σ1 : Hp) (H : Heap) (locs : List Loc) (ls : Array Slot), f_X11_judge_b27 σ1 = some (r, τ) → tB g P σ1 A s.heap H locs → lv_has ls 7 [(0, .ref (gL g 0))] → WQ p l e { frames := 4, cells := 0, slots := 0, locals := 111 } s m args below meth c g P A (some (.int r)) τ H locs (F0 m 27 ls []) := by
    intro σ1 H locs ls h hB hl
    unfold f_X11_judge_b27 at h
    refine lv_aload_n hx hb dX11_judge_27 rfl (lv_at hl 0 rfl) ?_
    refine lv_iconst (v := -1) hx hb dX11_judge_28 (by decide) ?_
    replace h := b2_eq h; obtain ⟨r_8, s_9, hc_10, h⟩ := h
    refine R_call (rest := []) [.int r_8] (R_runV (n := 1) (As := [.int (-1 : Int32)]) ⟨hx, hb, hml, hown, ht⟩ (fun _ h9 => h9) hK hZ hA hB (c_X11_refuse l g P σ1 (-1 : Int32) H.size hc_10) (R_recv hK hB (by decide) (cell_0 rfl) rfl) tw178 tw175 tw177 pw1 tw1 ⟨by decide, by decide, by decide⟩ rfl rfl ⟨Nat.le_of_ble_eq_true rfl, Nat.le_of_ble_eq_true rfl⟩ rfl hl.1 rfl (Nat.le_of_ble_eq_true rfl) dX11_judge_29 ⟨Nat.zero_le _, Nat.zero_le _⟩) hB hA rfl (fun H locs hB => ?_)
    refine lv_bipush (v := 10) hx hb dX11_judge_32 (by decide) ?_
    refine lv_isub hx hb dX11_judge_34 ?_
    obtain ⟨rfl, rfl⟩ := Prod.mk.inj (Option.some.inj h)
    exact W.iret hx hb hr (R_end hB) hB.2.2.2.2 dX11_judge_35
  suffices hmain : ∀ (H : Heap) (locs : List Loc) (ls : Array Slot), tB g P σ A s.heap H locs → lv_has ls 7 [(0, .ref (gL g 0)), (1, .int a1), (2, .int a2), (3, .int a3)] → WQ p l e { frames := 4, cells := 0, slots := 0, locals := 111 } s m args below meth c g P A (some (.int r)) τ H locs (F0 m 0 ls []) from hmain _ _ ls0 hB0 hl0
  intro H locs ls hB hl
  unfold f_X11_judge at h
  refine lv_aload_n hx hb dX11_judge_0 rfl (lv_at hl 0 rfl) ?_
  refine R_get (v := .ref (gL g 1)) hx hb ht ui_X11 hown hK hB (by decide) (cell_0 rfl) rfl 0 (by decide) (ht _ tw130) (fun _ h9 => h9) rfl dX11_judge_1 ?_
  refine lv_iload_n hx hb dX11_judge_4 rfl (lv_at hl 1 rfl) ?_
  replace h := b2_eq h; obtain ⟨r_1, s_2, hc_3, h⟩ := h
  refine R_call (rest := []) [va_rf (Option.map P r_1)] (R_runV (n := 1) (As := [.int a1]) ⟨hx, hb, hml, hown, ht⟩ (fun _ h9 => h9) hK hZ hA hB (c_X7_lawAt l g P σ 1 a1 rfl H.size hc_3) (R_recv hK hB (by decide) (cell_1 rfl) rfl) tw228 tw225 tw226 tw227 tw2 ⟨by decide, by decide, by decide⟩ rfl rfl ⟨Nat.le_of_ble_eq_true rfl, Nat.le_of_ble_eq_true rfl⟩ rfl hl.1 rfl (Nat.le_of_ble_eq_true rfl) dX11_judge_5 ⟨Nat.zero_le _, Nat.zero_le _⟩) hB hA rfl (fun H locs hB => ?_)
  refine lv_astoreR (lv' := [(4, va_rf (Option.map P r_1)), (0, .ref (gL g 0)), (1, .int a1), (2, .int a2), (3, .int a3)]) hx hb dX11_judge_8 hl (by decide) rfl (fun ls hl => ?_)
  refine lv_aload_n hx hb dX11_judge_10 rfl (lv_at hl 1 rfl) ?_
  refine lv_iload_n hx hb dX11_judge_11 rfl (lv_at hl 3 rfl) ?_
  replace h := b2_eq h; obtain ⟨r_4, s_5, hc_6, h⟩ := h
  refine R_call (rest := []) [va_rf (Option.map (gL g) r_4)] (R_runV (n := 1) (As := [.int a2]) ⟨hx, hb, hml, hown, ht⟩ (fun _ h9 => h9) hK hZ hA hB (c_X11_shelfAt l g P s_2 a2 H.size hc_6) (R_recv hK hB (by decide) (cell_0 rfl) rfl) tw174 tw171 tw173 pw0 tw1 ⟨by decide, by decide, by decide⟩ rfl rfl ⟨Nat.le_of_ble_eq_true rfl, Nat.le_of_ble_eq_true rfl⟩ rfl hl.1 rfl (Nat.le_of_ble_eq_true rfl) dX11_judge_12 ⟨Nat.zero_le _, Nat.zero_le _⟩) hB hA rfl (fun H locs hB => ?_)
  refine lv_astoreR (lv' := [(5, va_rf (Option.map (gL g) r_4)), (4, va_rf (Option.map P r_1)), (0, .ref (gL g 0)), (1, .int a1), (2, .int a2), (3, .int a3)]) hx hb dX11_judge_15 hl (by decide) (by simp [va_rf_cat]) (fun ls hl => ?_)
  refine lv_aloadR hx hb dX11_judge_17 (lv_at hl 1 rfl) ?_
  rcases r_1 with _ | y_7
  · replace h := cs_n h
    have hl : lv_has ls 7 [(5, va_rf (Option.map (gL g) r_4)), (4, .null), (0, .ref (gL g 0)), (1, .int a1), (2, .int a2), (3, .int a3)] := hl
    refine lv_ifnullN (tgt := 27) hx hb dX11_judge_19 (by decide) ?_
    exact hb_27 s_5 H locs ls h hB (lv_sub hl [2] rfl)
  · replace h := cs_s h
    have hl : lv_has ls 7 [(5, va_rf (Option.map (gL g) r_4)), (4, .ref (P y_7)), (0, .ref (gL g 0)), (1, .int a1), (2, .int a2), (3, .int a3)] := hl
    refine lv_ifnull hx hb dX11_judge_19 ?_
    refine lv_aloadR hx hb dX11_judge_22 (lv_at hl 0 rfl) ?_
    rcases r_4 with _ | y_11
    · replace h := cs_n h
      have hl : lv_has ls 7 [(5, .null), (4, .ref (P y_7)), (0, .ref (gL g 0)), (1, .int a1), (2, .int a2), (3, .int a3)] := hl
      refine lv_ifnonnullN hx hb dX11_judge_24 ?_
      exact hb_27 s_5 H locs ls h hB (lv_sub hl [2] rfl)
    · replace h := cs_s h
      replace h := ck_eq h; obtain ⟨q_12, h⟩ := h
      have hl : lv_has ls 7 [(5, .ref (gL g y_11)), (4, .ref (P y_7)), (0, .ref (gL g 0)), (1, .int a1), (2, .int a2), (3, .int a3)] := hl
      refine lv_ifnonnull (tgt := 36) hx hb dX11_judge_24 (by decide) ?_
      refine lv_aload hx hb dX11_judge_36 (lv_at hl 0 rfl) ?_
      refine lv_iload_n hx hb dX11_judge_38 rfl (lv_at hl 5 rfl) ?_
      replace h := b2_eq h; obtain ⟨r_13, s_14, hc_15, h⟩ := h
      refine R_call (rest := []) [.int r_13] (R_runS (n := 2) (As := [.ref (gL g y_11), .int a3]) ⟨hx, hb, hml, hown, ht⟩ (fun _ h9 => h9) hK hZ hA hB (c_X11_refusalOfSlate l g P s_5 y_11 a3 q_12 H.size hc_15) tw766 tw764 tw765 tw1 ⟨by decide, by decide, by decide⟩ rfl rfl ⟨Nat.le_of_ble_eq_true rfl, Nat.le_of_ble_eq_true rfl⟩ rfl hl.1 rfl (Nat.le_of_ble_eq_true rfl) dX11_judge_39 ⟨Nat.zero_le _, Nat.zero_le _⟩) hB hA rfl (fun H locs hB => ?_)
      refine lv_istore (lv' := [(6, .int r_13), (5, .ref (gL g y_11)), (4, .ref (P y_7)), (0, .ref (gL g 0)), (1, .int a1), (2, .int a2), (3, .int a3)]) hx hb dX11_judge_42 hl (by decide) rfl (fun ls hl => ?_)
      refine lv_iload hx hb dX11_judge_44 (lv_at hl 0 rfl) ?_
      refine lv_if_eq (tgt := 61) hx hb dX11_judge_46 (by decide) (fun c_16 => ?_) (fun c_16 => ?_)
      · replace h := itp h c_16
        refine lv_aload_n hx hb dX11_judge_61 rfl (lv_at hl 3 rfl) ?_
        refine lv_aload hx hb dX11_judge_62 (lv_at hl 2 rfl) ?_
        refine lv_aload hx hb dX11_judge_64 (lv_at hl 1 rfl) ?_
        refine lv_iload_n hx hb dX11_judge_66 rfl (lv_at hl 6 rfl) ?_
        replace h := b2_eq h; obtain ⟨r_17, s_18, hc_19, h⟩ := h
        refine R_call (rest := []) [.int r_17] (R_runV (n := 3) (As := [.ref (P y_7), .ref (gL g y_11), .int a3]) ⟨hx, hb, hml, hown, ht⟩ (fun _ h9 => h9) hK hZ hA hB (c_X11_firstWrong l g P s_14 y_7 y_11 a3 q_12 H.size hc_19) (R_recv hK hB (by decide) (cell_0 rfl) rfl) tw770 tw767 tw769 pw23 tw1 ⟨by decide, by decide, by decide⟩ rfl rfl ⟨Nat.le_of_ble_eq_true rfl, Nat.le_of_ble_eq_true rfl⟩ rfl hl.1 rfl (Nat.le_of_ble_eq_true rfl) dX11_judge_67 ⟨Nat.zero_le _, Nat.zero_le _⟩) hB hA rfl (fun H locs hB => ?_)
        obtain ⟨rfl, rfl⟩ := Prod.mk.inj (Option.some.inj h)
        exact W.iret hx hb hr (R_end hB) hB.2.2.2.2 dX11_judge_70
      · replace h := itn h c_16
        refine lv_aload_n hx hb dX11_judge_49 rfl (lv_at hl 3 rfl) ?_
        refine lv_iload hx hb dX11_judge_50 (lv_at hl 0 rfl) ?_
        replace h := b2_eq h; obtain ⟨r_20, s_21, hc_22, h⟩ := h
        refine R_call (rest := []) [.int r_20] (R_runV (n := 1) (As := [.int r_13]) ⟨hx, hb, hml, hown, ht⟩ (fun _ h9 => h9) hK hZ hA hB (c_X11_refuse l g P s_14 r_13 H.size hc_22) (R_recv hK hB (by decide) (cell_0 rfl) rfl) tw178 tw175 tw177 pw1 tw1 ⟨by decide, by decide, by decide⟩ rfl rfl ⟨Nat.le_of_ble_eq_true rfl, Nat.le_of_ble_eq_true rfl⟩ rfl hl.1 rfl (Nat.le_of_ble_eq_true rfl) dX11_judge_52 ⟨Nat.zero_le _, Nat.zero_le _⟩) hB hA rfl (fun H locs hB => ?_)
        refine lv_bipush (v := 10) hx hb dX11_judge_55 (by decide) ?_
        refine lv_isub hx hb dX11_judge_57 ?_
        refine lv_goto (tgt := 70) hx hb dX11_judge_58 (by decide) ?_
        obtain ⟨rfl, rfl⟩ := Prod.mk.inj (Option.some.inj h)
        exact W.iret hx hb hr (R_end hB) hB.2.2.2.2 dX11_judge_70
def f_X11_laws_b90 (x2 : Int32) (x3 : Nat) (x5 : Int32) (x6 : Int32) (σ1 : Hp) : Option ((Int32 × Int32 × Hp) ⊕ (Int32 × Hp)) := some (.inl (x5, (x6 + 1), σ1))
def f_X11_laws_t41 (x2 : Int32) (x3 : Nat) (x5 : Int32) (x6 : Int32) (σ1 : Hp) : Option ((Int32 × Int32 × Hp) ⊕ (Int32 × Hp)) := if (hI σ1 1 2) ≤ x6 then ex (some (x5, σ1)) else b2 (f_X7_lawAt 1 x6 σ1) (fun r_14 s_15 => cs r_14 (f_X11_laws_b90 x2 x3 x5 x6 s_15) (fun y_17 => b2 (f_X11_firstWrong y_17 x3 x2 s_15) (fun r_18 s_19 => if r_18 = (-1 : Int32) then f_X11_laws_b90 x2 x3 (x5 ||| ((1 : Int32) <<< (x6 &&& 31))) x6 s_19 else f_X11_laws_b90 x2 x3 x5 x6 s_19)))
def f_X11_laws_s41 (x2 : Int32) (x3 : Nat) (v : (Int32 × Int32 × Hp)) : Option ((Int32 × Int32 × Hp) ⊕ (Int32 × Hp)) := f_X11_laws_t41 x2 x3 v.1 v.2.1 v.2.2
def f_X11_laws (a1 : Int32) (a2 : Int32) (σ : Hp) : Option (Int32 × Hp) := b2 (f_X11_shelfAt a1 σ) (fun r_1 s_2 => cs r_1 (b2 (f_X11_refuse (-1 : Int32) s_2) (fun r_6 s_7 => some (r_6, s_7))) (fun y_4 => ck (ky y_4 = 6) (b2 (f_X11_refusalOfSlate y_4 a2 s_2) (fun r_9 s_10 => if r_9 = 0 then iter (f_X11_laws_s41 a2 y_4) fuel ((0 : Int32), (0 : Int32), s_10) else b2 (f_X11_refuse r_9 s_10) (fun r_22 s_23 => some (r_22, s_23))))))
set_option maxHeartbeats 4000000 in
set_option maxRecDepth 100000 in
theorem c_X11_laws (l : Launch) (g : tG) (P : Nat → Nat) (σ : Hp) (a1 : Int32) (a2 : Int32) (sz : Nat) {r : Int32} {τ : Hp} (h : f_X11_laws a1 a2 σ = some (r, τ)) : Met l yX11_laws (Cond.code yX11_laws cX11_laws 8 (some .int) :: tblG) ({ frames := 4, cells := 0, slots := 0, locals := 111 }) (va_Pc [.ref (gL g 0), .int a1, .int a2] (tPre g P σ sz)) (tQ (some (.int r)) (tPost g P τ (va_A (wC g P σ) sz)) (va_A (wC g P σ) sz)) 0 0 (va_A (wC g P σ) sz) := by
  refine T_start (B := fun A => tPost g P τ A) (by decide) (Nat.le_of_ble_eq_true rfl) ?_
  intro p e s m args below meth c ls0 A hx hb hml hr hown hlocks ht hnm hK hZ hA hB0 hl0
  have hL_41 : ∀ (x2 : Int32) (x3 : Nat) (hk_x3 : ky x3 = 6) (n : Nat) (x5 : Int32) (x6 : Int32) (σ1 : Hp) (H : Heap) (locs : List Loc) (ls : Array Slot), iter (f_X11_laws_s41 x2 x3) n (x5, x6, σ1) = some (r, τ) → tB g P σ1 A s.heap H locs → lv_has ls 8 [(0, .ref (gL g 0)), (2, .int x2), (3, .ref (gL g x3)), (5, .int x5), (6, .int x6)] → WQ p l e { frames := 4, cells := 0, slots := 0, locals := 111 } s m args below meth c g P A (some (.int r)) τ H locs (F0 m 41 ls []) := by
    intro x2 x3 hk_x3 n
    induction n with
    | zero =>
      intro x5 x6 σ1 H locs ls h hB hl
      exact (iter_0 h).elim
    | succ n ih1 =>
      intro x5 x6 σ1 H locs ls h hB hl
      replace h := iter_eq h; obtain ⟨z1, hh1, hx1⟩ := h
      have hb_90 : ∀ (x5 : Int32) (x6 : Int32) (σ1 : Hp) (H : Heap) (locs : List Loc) (ls : Array Slot), f_X11_laws_b90 x2 x3 x5 x6 σ1 = some z1 → tB g P σ1 A s.heap H locs → lv_has ls 8 [(0, .ref (gL g 0)), (2, .int x2), (3, .ref (gL g x3)), (5, .int x5), (6, .int x6)] → WQ p l e { frames := 4, cells := 0, slots := 0, locals := 111 } s m args below meth c g P A (some (.int r)) τ H locs (F0 m 90 ls []) := by
        intro x5 x6 σ1 H locs ls h hB hl
        unfold f_X11_laws_b90 at h
        refine lv_iinc (v := x6 + 1) (lv' := [(6, .int (x6 + 1)), (0, .ref (gL g 0)), (2, .int x2), (3, .ref (gL g x3)), (5, .int x5)]) hx hb dX11_laws_90 hl (k := 4) rfl rfl (by decide) rfl (fun ls hl => ?_)
        refine lv_goto (tgt := 41) hx hb dX11_laws_93 (by decide) ?_
        obtain rfl := Option.some.inj h
        exact ih1 x5 (x6 + 1) σ1 H locs ls hx1 hB (lv_sub hl [1, 2, 3, 4, 0] rfl)
      have h : f_X11_laws_t41 x2 x3 x5 x6 σ1 = some z1 := hh1
      clear hh1
      unfold f_X11_laws_t41 at h
      refine lv_iload hx hb dX11_laws_41 (lv_at hl 4 rfl) ?_
      refine lv_aload_n hx hb dX11_laws_43 rfl (lv_at hl 0 rfl) ?_
      refine R_get (v := .ref (gL g 1)) hx hb ht ui_X11 hown hK hB (by decide) (cell_0 rfl) rfl 0 (by decide) (ht _ tw130) (fun _ h9 => h9) rfl dX11_laws_44 ?_
      refine R_get (v := .int (hI σ1 1 2)) hx hb ht ui_X7 hown hK hB (by decide) (cell_1 rfl) rfl 2 (by decide) (ht _ tw51) (fun _ h9 => h9) rfl dX11_laws_47 ?_
      refine lv_icmp_ge (tgt := 96) hx hb dX11_laws_50 (by decide) (fun c_13 => ?_) (fun c_13 => ?_)
      · replace h := itp h c_13
        replace h := ex_eq h; obtain ⟨b1, h, hz1⟩ := h
        subst hz1
        have hz1 := (itk_inr hx1).symm
        subst hz1
        refine lv_iload hx hb dX11_laws_96 (lv_at hl 3 rfl) ?_
        obtain ⟨rfl, rfl⟩ := Prod.mk.inj (Option.some.inj h)
        exact W.iret hx hb hr (R_end hB) hB.2.2.2.2 dX11_laws_98
      · replace h := itn h c_13
        refine lv_aload_n hx hb dX11_laws_53 rfl (lv_at hl 0 rfl) ?_
        refine R_get (v := .ref (gL g 1)) hx hb ht ui_X11 hown hK hB (by decide) (cell_0 rfl) rfl 0 (by decide) (ht _ tw130) (fun _ h9 => h9) rfl dX11_laws_54 ?_
        refine lv_iload hx hb dX11_laws_57 (lv_at hl 4 rfl) ?_
        replace h := b2_eq h; obtain ⟨r_14, s_15, hc_16, h⟩ := h
        refine R_call (rest := []) [va_rf (Option.map P r_14)] (R_runV (n := 1) (As := [.int x6]) ⟨hx, hb, hml, hown, ht⟩ (fun _ h9 => h9) hK hZ hA hB (c_X7_lawAt l g P σ1 1 x6 rfl H.size hc_16) (R_recv hK hB (by decide) (cell_1 rfl) rfl) tw228 tw225 tw226 tw227 tw2 ⟨by decide, by decide, by decide⟩ rfl rfl ⟨Nat.le_of_ble_eq_true rfl, Nat.le_of_ble_eq_true rfl⟩ rfl hl.1 rfl (Nat.le_of_ble_eq_true rfl) dX11_laws_59 ⟨Nat.zero_le _, Nat.zero_le _⟩) hB hA rfl (fun H locs hB => ?_)
        refine lv_astoreR (lv' := [(7, va_rf (Option.map P r_14)), (0, .ref (gL g 0)), (2, .int x2), (3, .ref (gL g x3)), (5, .int x5), (6, .int x6)]) hx hb dX11_laws_62 hl (by decide) rfl (fun ls hl => ?_)
        refine lv_aloadR hx hb dX11_laws_64 (lv_at hl 0 rfl) ?_
        rcases r_14 with _ | y_17
        · replace h := cs_n h
          have hl : lv_has ls 8 [(7, .null), (0, .ref (gL g 0)), (2, .int x2), (3, .ref (gL g x3)), (5, .int x5), (6, .int x6)] := hl
          refine lv_ifnullN (tgt := 90) hx hb dX11_laws_66 (by decide) ?_
          exact hb_90 x5 x6 s_15 H locs ls h hB (lv_sub hl [1, 2, 3, 4, 5] rfl)
        · replace h := cs_s h
          have hl : lv_has ls 8 [(7, .ref (P y_17)), (0, .ref (gL g 0)), (2, .int x2), (3, .ref (gL g x3)), (5, .int x5), (6, .int x6)] := hl
          refine lv_ifnull hx hb dX11_laws_66 ?_
          refine lv_aload_n hx hb dX11_laws_69 rfl (lv_at hl 1 rfl) ?_
          refine lv_aload hx hb dX11_laws_70 (lv_at hl 0 rfl) ?_
          refine lv_aload_n hx hb dX11_laws_72 rfl (lv_at hl 3 rfl) ?_
          refine lv_iload_n hx hb dX11_laws_73 rfl (lv_at hl 2 rfl) ?_
          replace h := b2_eq h; obtain ⟨r_18, s_19, hc_20, h⟩ := h
          refine R_call (rest := []) [.int r_18] (R_runV (n := 3) (As := [.ref (P y_17), .ref (gL g x3), .int x2]) ⟨hx, hb, hml, hown, ht⟩ (fun _ h9 => h9) hK hZ hA hB (c_X11_firstWrong l g P s_15 y_17 x3 x2 hk_x3 H.size hc_20) (R_recv hK hB (by decide) (cell_0 rfl) rfl) tw770 tw767 tw769 pw23 tw1 ⟨by decide, by decide, by decide⟩ rfl rfl ⟨Nat.le_of_ble_eq_true rfl, Nat.le_of_ble_eq_true rfl⟩ rfl hl.1 rfl (Nat.le_of_ble_eq_true rfl) dX11_laws_74 ⟨Nat.zero_le _, Nat.zero_le _⟩) hB hA rfl (fun H locs hB => ?_)
          refine lv_iconst (v := -1) hx hb dX11_laws_77 (by decide) ?_
          refine lv_icmp_ne (tgt := 90) hx hb dX11_laws_78 (by decide) (fun c_21 => ?_) (fun c_21 => ?_)
          · replace h := itn h c_21
            exact hb_90 x5 x6 s_19 H locs ls h hB (lv_sub hl [1, 2, 3, 4, 5] rfl)
          · replace h := itp h c_21
            refine lv_iload hx hb dX11_laws_81 (lv_at hl 4 rfl) ?_
            refine lv_iconst (v := 1) hx hb dX11_laws_83 (by decide) ?_
            refine lv_iload hx hb dX11_laws_84 (lv_at hl 5 rfl) ?_
            refine lv_ishl hx hb dX11_laws_86 ?_
            refine lv_ior hx hb dX11_laws_87 ?_
            refine lv_istore (lv' := [(5, .int (x5 ||| ((1 : Int32) <<< (x6 &&& 31)))), (7, .ref (P y_17)), (0, .ref (gL g 0)), (2, .int x2), (3, .ref (gL g x3)), (6, .int x6)]) hx hb dX11_laws_88 hl (by decide) rfl (fun ls hl => ?_)
            exact hb_90 (x5 ||| ((1 : Int32) <<< (x6 &&& 31))) x6 s_19 H locs ls h hB (lv_sub hl [2, 3, 4, 0, 5] rfl)
  suffices hmain : ∀ (H : Heap) (locs : List Loc) (ls : Array Slot), tB g P σ A s.heap H locs → lv_has ls 8 [(0, .ref (gL g 0)), (1, .int a1), (2, .int a2)] → WQ p l e { frames := 4, cells := 0, slots := 0, locals := 111 } s m args below meth c g P A (some (.int r)) τ H locs (F0 m 0 ls []) from hmain _ _ ls0 hB0 hl0
  intro H locs ls hB hl
  unfold f_X11_laws at h
  refine lv_aload_n hx hb dX11_laws_0 rfl (lv_at hl 0 rfl) ?_
  refine lv_iload_n hx hb dX11_laws_1 rfl (lv_at hl 1 rfl) ?_
  replace h := b2_eq h; obtain ⟨r_1, s_2, hc_3, h⟩ := h
  refine R_call (rest := []) [va_rf (Option.map (gL g) r_1)] (R_runV (n := 1) (As := [.int a1]) ⟨hx, hb, hml, hown, ht⟩ (fun _ h9 => h9) hK hZ hA hB (c_X11_shelfAt l g P σ a1 H.size hc_3) (R_recv hK hB (by decide) (cell_0 rfl) rfl) tw174 tw171 tw173 pw0 tw1 ⟨by decide, by decide, by decide⟩ rfl rfl ⟨Nat.le_of_ble_eq_true rfl, Nat.le_of_ble_eq_true rfl⟩ rfl hl.1 rfl (Nat.le_of_ble_eq_true rfl) dX11_laws_2 ⟨Nat.zero_le _, Nat.zero_le _⟩) hB hA rfl (fun H locs hB => ?_)
  refine lv_astore_nR (lv' := [(3, va_rf (Option.map (gL g) r_1)), (0, .ref (gL g 0)), (1, .int a1), (2, .int a2)]) hx hb dX11_laws_5 rfl hl (by decide) rfl (fun ls hl => ?_)
  refine lv_aload_nR hx hb dX11_laws_6 rfl (lv_at hl 0 rfl) ?_
  rcases r_1 with _ | y_4
  · replace h := cs_n h
    have hl : lv_has ls 8 [(3, .null), (0, .ref (gL g 0)), (1, .int a1), (2, .int a2)] := hl
    refine lv_ifnonnullN hx hb dX11_laws_7 ?_
    refine lv_aload_n hx hb dX11_laws_10 rfl (lv_at hl 1 rfl) ?_
    refine lv_iconst (v := -1) hx hb dX11_laws_11 (by decide) ?_
    replace h := b2_eq h; obtain ⟨r_6, s_7, hc_8, h⟩ := h
    refine R_call (rest := []) [.int r_6] (R_runV (n := 1) (As := [.int (-1 : Int32)]) ⟨hx, hb, hml, hown, ht⟩ (fun _ h9 => h9) hK hZ hA hB (c_X11_refuse l g P s_2 (-1 : Int32) H.size hc_8) (R_recv hK hB (by decide) (cell_0 rfl) rfl) tw178 tw175 tw177 pw1 tw1 ⟨by decide, by decide, by decide⟩ rfl rfl ⟨Nat.le_of_ble_eq_true rfl, Nat.le_of_ble_eq_true rfl⟩ rfl hl.1 rfl (Nat.le_of_ble_eq_true rfl) dX11_laws_12 ⟨Nat.zero_le _, Nat.zero_le _⟩) hB hA rfl (fun H locs hB => ?_)
    obtain ⟨rfl, rfl⟩ := Prod.mk.inj (Option.some.inj h)
    exact W.iret hx hb hr (R_end hB) hB.2.2.2.2 dX11_laws_15
  · replace h := cs_s h
    replace h := ck_eq h; obtain ⟨q_5, h⟩ := h
    have hl : lv_has ls 8 [(3, .ref (gL g y_4)), (0, .ref (gL g 0)), (1, .int a1), (2, .int a2)] := hl
    refine lv_ifnonnull (tgt := 16) hx hb dX11_laws_7 (by decide) ?_
    refine lv_aload_n hx hb dX11_laws_16 rfl (lv_at hl 0 rfl) ?_
    refine lv_iload_n hx hb dX11_laws_17 rfl (lv_at hl 3 rfl) ?_
    replace h := b2_eq h; obtain ⟨r_9, s_10, hc_11, h⟩ := h
    refine R_call (rest := []) [.int r_9] (R_runS (n := 2) (As := [.ref (gL g y_4), .int a2]) ⟨hx, hb, hml, hown, ht⟩ (fun _ h9 => h9) hK hZ hA hB (c_X11_refusalOfSlate l g P s_2 y_4 a2 q_5 H.size hc_11) tw766 tw764 tw765 tw1 ⟨by decide, by decide, by decide⟩ rfl rfl ⟨Nat.le_of_ble_eq_true rfl, Nat.le_of_ble_eq_true rfl⟩ rfl hl.1 rfl (Nat.le_of_ble_eq_true rfl) dX11_laws_18 ⟨Nat.zero_le _, Nat.zero_le _⟩) hB hA rfl (fun H locs hB => ?_)
    refine lv_istore (lv' := [(4, .int r_9), (3, .ref (gL g y_4)), (0, .ref (gL g 0)), (1, .int a1), (2, .int a2)]) hx hb dX11_laws_21 hl (by decide) rfl (fun ls hl => ?_)
    refine lv_iload hx hb dX11_laws_23 (lv_at hl 0 rfl) ?_
    refine lv_if_eq (tgt := 35) hx hb dX11_laws_25 (by decide) (fun c_12 => ?_) (fun c_12 => ?_)
    · replace h := itp h c_12
      refine lv_iconst (v := 0) hx hb dX11_laws_35 (by decide) ?_
      refine lv_istore (lv' := [(5, .int (0 : Int32)), (4, .int r_9), (3, .ref (gL g y_4)), (0, .ref (gL g 0)), (1, .int a1), (2, .int a2)]) hx hb dX11_laws_36 hl (by decide) rfl (fun ls hl => ?_)
      refine lv_iconst (v := 0) hx hb dX11_laws_38 (by decide) ?_
      refine lv_istore (lv' := [(6, .int (0 : Int32)), (5, .int (0 : Int32)), (4, .int r_9), (3, .ref (gL g y_4)), (0, .ref (gL g 0)), (1, .int a1), (2, .int a2)]) hx hb dX11_laws_39 hl (by decide) rfl (fun ls hl => ?_)
      exact hL_41 a2 y_4 q_5 fuel (0 : Int32) (0 : Int32) s_10 H locs ls h hB (lv_sub hl [4, 6, 3, 1, 0] rfl)
    · replace h := itn h c_12
      refine lv_aload_n hx hb dX11_laws_28 rfl (lv_at hl 2 rfl) ?_
      refine lv_iload hx hb dX11_laws_29 (lv_at hl 0 rfl) ?_
      replace h := b2_eq h; obtain ⟨r_22, s_23, hc_24, h⟩ := h
      refine R_call (rest := []) [.int r_22] (R_runV (n := 1) (As := [.int r_9]) ⟨hx, hb, hml, hown, ht⟩ (fun _ h9 => h9) hK hZ hA hB (c_X11_refuse l g P s_10 r_9 H.size hc_24) (R_recv hK hB (by decide) (cell_0 rfl) rfl) tw178 tw175 tw177 pw1 tw1 ⟨by decide, by decide, by decide⟩ rfl rfl ⟨Nat.le_of_ble_eq_true rfl, Nat.le_of_ble_eq_true rfl⟩ rfl hl.1 rfl (Nat.le_of_ble_eq_true rfl) dX11_laws_31 ⟨Nat.zero_le _, Nat.zero_le _⟩) hB hA rfl (fun H locs hB => ?_)
      obtain ⟨rfl, rfl⟩ := Prod.mk.inj (Option.some.inj h)
      exact W.iret hx hb hr (R_end hB) hB.2.2.2.2 dX11_laws_34
def f_X11_write (a1 : Int64) (σ : Hp) : Option (Int32 × Hp) := b2 (f_X11_isNumber a1 σ) (fun r_1 s_2 => if r_1 = 0 then b2 (f_X11_refuse (-6 : Int32) s_2) (fun r_15 s_16 => some (r_15, s_16)) else b2 (f_X7_slateFull 1 s_2) (fun r_5 s_6 => if r_5 = 0 then b2 (f_X7_put 1 a1 s_6) (fun r_9 s_10 => some ((hI s_10 1 3), s_10)) else b2 (f_X11_refuse (-7 : Int32) s_6) (fun r_12 s_13 => some (r_12, s_13))))
set_option maxHeartbeats 4000000 in
set_option maxRecDepth 100000 in
theorem c_X11_write (l : Launch) (g : tG) (P : Nat → Nat) (σ : Hp) (a1 : Int64) (sz : Nat) {r : Int32} {τ : Hp} (h : f_X11_write a1 σ = some (r, τ)) : Met l yX11_write (Cond.code yX11_write cX11_write 3 (some .int) :: tblG) ({ frames := 1, cells := 0, slots := 0, locals := 22 }) (va_Pc [.ref (gL g 0), .long a1] (tPre g P σ sz)) (tQ (some (.int r)) (tPost g P τ (va_A (wC g P σ) sz)) (va_A (wC g P σ) sz)) 0 0 (va_A (wC g P σ) sz) := by
  refine T_start (B := fun A => tPost g P τ A) (by decide) (Nat.le_of_ble_eq_true rfl) ?_
  intro p e s m args below meth c ls0 A hx hb hml hr hown hlocks ht hnm hK hZ hA hB0 hl0
  suffices hmain : ∀ (H : Heap) (locs : List Loc) (ls : Array Slot), tB g P σ A s.heap H locs → lv_has ls 3 [(0, .ref (gL g 0)), (1, .long a1)] → WQ p l e { frames := 1, cells := 0, slots := 0, locals := 22 } s m args below meth c g P A (some (.int r)) τ H locs (F0 m 0 ls []) from hmain _ _ ls0 hB0 hl0
  intro H locs ls hB hl
  unfold f_X11_write at h
  refine lv_lload_n hx hb dX11_write_0 rfl (lv_at hl 1 rfl) ?_
  replace h := b2_eq h; obtain ⟨r_1, s_2, hc_3, h⟩ := h
  refine R_call (rest := []) [.int r_1] (R_runS (n := 1) (As := [.long a1]) ⟨hx, hb, hml, hown, ht⟩ (fun _ h9 => h9) hK hZ hA hB (c_X11_isNumber l g P σ a1 H.size hc_3) tw622 tw620 tw621 tw1 ⟨by decide, by decide, by decide⟩ rfl rfl ⟨Nat.le_of_ble_eq_true rfl, Nat.le_of_ble_eq_true rfl⟩ rfl hl.1 rfl (Nat.le_of_ble_eq_true rfl) dX11_write_1 ⟨Nat.zero_le _, Nat.zero_le _⟩) hB hA rfl (fun H locs hB => ?_)
  refine lv_if_ne (tgt := 14) hx hb dX11_write_4 (by decide) (fun c_4 => ?_) (fun c_4 => ?_)
  · replace h := itn h c_4
    refine lv_aload_n hx hb dX11_write_14 rfl (lv_at hl 0 rfl) ?_
    refine R_get (v := .ref (gL g 1)) hx hb ht ui_X11 hown hK hB (by decide) (cell_0 rfl) rfl 0 (by decide) (ht _ tw130) (fun _ h9 => h9) rfl dX11_write_15 ?_
    replace h := b2_eq h; obtain ⟨r_5, s_6, hc_7, h⟩ := h
    refine R_call (rest := []) [.int r_5] (R_runV (n := 0) (As := []) ⟨hx, hb, hml, hown, ht⟩ (fun _ h9 => h9) hK hZ hA hB (c_X7_slateFull l g P s_2 1 rfl H.size hc_7) (R_recv hK hB (by decide) (cell_1 rfl) rfl) tw592 tw779 tw590 tw591 tw2 ⟨by decide, by decide, by decide⟩ rfl rfl ⟨Nat.le_of_ble_eq_true rfl, Nat.le_of_ble_eq_true rfl⟩ rfl hl.1 rfl (Nat.le_of_ble_eq_true rfl) dX11_write_18 ⟨Nat.zero_le _, Nat.zero_le _⟩) hB hA rfl (fun H locs hB => ?_)
    refine lv_if_eq (tgt := 31) hx hb dX11_write_21 (by decide) (fun c_8 => ?_) (fun c_8 => ?_)
    · replace h := itp h c_8
      refine lv_aload_n hx hb dX11_write_31 rfl (lv_at hl 0 rfl) ?_
      refine R_get (v := .ref (gL g 1)) hx hb ht ui_X11 hown hK hB (by decide) (cell_0 rfl) rfl 0 (by decide) (ht _ tw130) (fun _ h9 => h9) rfl dX11_write_32 ?_
      refine lv_lload_n hx hb dX11_write_35 rfl (lv_at hl 1 rfl) ?_
      replace h := b2_eq h; obtain ⟨r_9, s_10, hc_11, h⟩ := h
      refine R_call (rest := []) [] (R_runV (n := 1) (As := [.long a1]) ⟨hx, hb, hml, hown, ht⟩ (fun _ h9 => h9) hK hZ hA hB (c_X7_put l g P s_6 1 a1 rfl H.size hc_11) (R_recv hK hB (by decide) (cell_1 rfl) rfl) tw597 tw780 tw595 tw596 tw2 ⟨by decide, by decide, by decide⟩ rfl rfl ⟨Nat.le_of_ble_eq_true rfl, Nat.le_of_ble_eq_true rfl⟩ rfl hl.1 rfl (Nat.le_of_ble_eq_true rfl) dX11_write_36 ⟨Nat.zero_le _, Nat.zero_le _⟩) hB hA rfl (fun H locs hB => ?_)
      refine lv_aload_n hx hb dX11_write_39 rfl (lv_at hl 0 rfl) ?_
      refine R_get (v := .ref (gL g 1)) hx hb ht ui_X11 hown hK hB (by decide) (cell_0 rfl) rfl 0 (by decide) (ht _ tw130) (fun _ h9 => h9) rfl dX11_write_40 ?_
      refine R_get (v := .int (hI s_10 1 3)) hx hb ht ui_X7 hown hK hB (by decide) (cell_1 rfl) rfl 3 (by decide) (ht _ tw54) (fun _ h9 => h9) rfl dX11_write_43 ?_
      obtain ⟨rfl, rfl⟩ := Prod.mk.inj (Option.some.inj h)
      exact W.iret hx hb hr (R_end hB) hB.2.2.2.2 dX11_write_46
    · replace h := itn h c_8
      refine lv_aload_n hx hb dX11_write_24 rfl (lv_at hl 0 rfl) ?_
      refine lv_bipush (v := -7) hx hb dX11_write_25 (by decide) ?_
      replace h := b2_eq h; obtain ⟨r_12, s_13, hc_14, h⟩ := h
      refine R_call (rest := []) [.int r_12] (R_runV (n := 1) (As := [.int (-7 : Int32)]) ⟨hx, hb, hml, hown, ht⟩ (fun _ h9 => h9) hK hZ hA hB (c_X11_refuse l g P s_6 (-7 : Int32) H.size hc_14) (R_recv hK hB (by decide) (cell_0 rfl) rfl) tw178 tw175 tw177 pw1 tw1 ⟨by decide, by decide, by decide⟩ rfl rfl ⟨Nat.le_of_ble_eq_true rfl, Nat.le_of_ble_eq_true rfl⟩ rfl hl.1 rfl (Nat.le_of_ble_eq_true rfl) dX11_write_27 ⟨Nat.zero_le _, Nat.zero_le _⟩) hB hA rfl (fun H locs hB => ?_)
      obtain ⟨rfl, rfl⟩ := Prod.mk.inj (Option.some.inj h)
      exact W.iret hx hb hr (R_end hB) hB.2.2.2.2 dX11_write_30
  · replace h := itp h c_4
    refine lv_aload_n hx hb dX11_write_7 rfl (lv_at hl 0 rfl) ?_
    refine lv_bipush (v := -6) hx hb dX11_write_8 (by decide) ?_
    replace h := b2_eq h; obtain ⟨r_15, s_16, hc_17, h⟩ := h
    refine R_call (rest := []) [.int r_15] (R_runV (n := 1) (As := [.int (-6 : Int32)]) ⟨hx, hb, hml, hown, ht⟩ (fun _ h9 => h9) hK hZ hA hB (c_X11_refuse l g P s_2 (-6 : Int32) H.size hc_17) (R_recv hK hB (by decide) (cell_0 rfl) rfl) tw178 tw175 tw177 pw1 tw1 ⟨by decide, by decide, by decide⟩ rfl rfl ⟨Nat.le_of_ble_eq_true rfl, Nat.le_of_ble_eq_true rfl⟩ rfl hl.1 rfl (Nat.le_of_ble_eq_true rfl) dX11_write_10 ⟨Nat.zero_le _, Nat.zero_le _⟩) hB hA rfl (fun H locs hB => ?_)
    obtain ⟨rfl, rfl⟩ := Prod.mk.inj (Option.some.inj h)
    exact W.iret hx hb hr (R_end hB) hB.2.2.2.2 dX11_write_13
def f_X11_slate_b32 (x1 : Int32) (xt0 : Int32) (σ1 : Hp) : Option (Int64 × Hp) := if xt0 = 0 then b2 (f_X11_refuse (-5 : Int32) σ1) (fun r_3 s_4 => some (r_3.toInt64, s_4)) else ck (inb x1 20 = true) (some ((hJ σ1 10 x1.toNatClampNeg), σ1))
def f_X11_slate_b31 (x1 : Int32) (σ1 : Hp) : Option (Int64 × Hp) := f_X11_slate_b32 x1 (0 : Int32) σ1
def f_X11_slate (a1 : Int32) (σ : Hp) : Option (Int64 × Hp) := if a1 < 0 then f_X11_slate_b31 a1 σ else if (hI σ 1 3) ≤ a1 then f_X11_slate_b31 a1 σ else if (20 : Int32) ≤ a1 then f_X11_slate_b31 a1 σ else f_X11_slate_b32 a1 (1 : Int32) σ
set_option maxHeartbeats 4000000 in
set_option maxRecDepth 100000 in
theorem c_X11_slate (l : Launch) (g : tG) (P : Nat → Nat) (σ : Hp) (a1 : Int32) (sz : Nat) {r : Int64} {τ : Hp} (h : f_X11_slate a1 σ = some (r, τ)) : Met l yX11_slate (Cond.code yX11_slate cX11_slate 3 (some .long) :: tblG) ({ frames := 1, cells := 0, slots := 0, locals := 22 }) (va_Pc [.ref (gL g 0), .int a1] (tPre g P σ sz)) (tQ (some (.long r)) (tPost g P τ (va_A (wC g P σ) sz)) (va_A (wC g P σ) sz)) 0 0 (va_A (wC g P σ) sz) := by
  refine T_start (B := fun A => tPost g P τ A) (by decide) (Nat.le_of_ble_eq_true rfl) ?_
  intro p e s m args below meth c ls0 A hx hb hml hr hown hlocks ht hnm hK hZ hA hB0 hl0
  have hb_32 : ∀ (x1 : Int32) (xt0 : Int32) (σ1 : Hp) (H : Heap) (locs : List Loc) (ls : Array Slot), f_X11_slate_b32 x1 xt0 σ1 = some (r, τ) → tB g P σ1 A s.heap H locs → lv_has ls 3 [(0, .ref (gL g 0)), (1, .int x1)] → WQ p l e { frames := 1, cells := 0, slots := 0, locals := 22 } s m args below meth c g P A (some (.long r)) τ H locs (F0 m 32 ls [.int xt0]) := by
    intro x1 xt0 σ1 H locs ls h hB hl
    unfold f_X11_slate_b32 at h
    refine lv_istore_n (lv' := [(2, .int xt0), (0, .ref (gL g 0)), (1, .int x1)]) hx hb dX11_slate_32 rfl hl (by decide) rfl (fun ls hl => ?_)
    refine lv_iload_n hx hb dX11_slate_33 rfl (lv_at hl 0 rfl) ?_
    refine lv_if_eq (tgt := 49) hx hb dX11_slate_34 (by decide) (fun c_2 => ?_) (fun c_2 => ?_)
    · replace h := itp h c_2
      refine lv_aload_n hx hb dX11_slate_49 rfl (lv_at hl 1 rfl) ?_
      refine lv_bipush (v := -5) hx hb dX11_slate_50 (by decide) ?_
      replace h := b2_eq h; obtain ⟨r_3, s_4, hc_5, h⟩ := h
      refine R_call (rest := []) [.int r_3] (R_runV (n := 1) (As := [.int (-5 : Int32)]) ⟨hx, hb, hml, hown, ht⟩ (fun _ h9 => h9) hK hZ hA hB (c_X11_refuse l g P σ1 (-5 : Int32) H.size hc_5) (R_recv hK hB (by decide) (cell_0 rfl) rfl) tw178 tw175 tw177 pw1 tw1 ⟨by decide, by decide, by decide⟩ rfl rfl ⟨Nat.le_of_ble_eq_true rfl, Nat.le_of_ble_eq_true rfl⟩ rfl hl.1 rfl (Nat.le_of_ble_eq_true rfl) dX11_slate_52 ⟨Nat.zero_le _, Nat.zero_le _⟩) hB hA rfl (fun H locs hB => ?_)
      refine lv_i2l (v := r_3.toInt64) hx hb dX11_slate_55 rfl ?_
      obtain ⟨rfl, rfl⟩ := Prod.mk.inj (Option.some.inj h)
      exact W.lret hx hb hr (R_end hB) hB.2.2.2.2 dX11_slate_56
    · replace h := itn h c_2
      refine lv_aload_n hx hb dX11_slate_37 rfl (lv_at hl 1 rfl) ?_
      refine R_get (v := .ref (gL g 1)) hx hb ht ui_X11 hown hK hB (by decide) (cell_0 rfl) rfl 0 (by decide) (ht _ tw130) (fun _ h9 => h9) rfl dX11_slate_38 ?_
      refine R_get (v := .ref (gL g 10)) hx hb ht ui_X7 hown hK hB (by decide) (cell_1 rfl) rfl 6 (by decide) (ht _ tw58) (fun _ h9 => h9) rfl dX11_slate_41 ?_
      refine lv_iload_n hx hb dX11_slate_44 rfl (lv_at hl 2 rfl) ?_
      replace h := ck_eq h; obtain ⟨q_6, h⟩ := h
      refine R_lald hx hb hK hB rfl (inb_eq q_6) dX11_slate_45 ?_
      refine lv_goto (tgt := 56) hx hb dX11_slate_46 (by decide) ?_
      obtain ⟨rfl, rfl⟩ := Prod.mk.inj (Option.some.inj h)
      exact W.lret hx hb hr (R_end hB) hB.2.2.2.2 dX11_slate_56
  have hb_31 : ∀ (x1 : Int32) (σ1 : Hp) (H : Heap) (locs : List Loc) (ls : Array Slot), f_X11_slate_b31 x1 σ1 = some (r, τ) → tB g P σ1 A s.heap H locs → lv_has ls 3 [(0, .ref (gL g 0)), (1, .int x1)] → WQ p l e { frames := 1, cells := 0, slots := 0, locals := 22 } s m args below meth c g P A (some (.long r)) τ H locs (F0 m 31 ls []) := by
    intro x1 σ1 H locs ls h hB hl
    unfold f_X11_slate_b31 at h
    refine lv_iconst (v := 0) hx hb dX11_slate_31 (by decide) ?_
    exact hb_32 x1 (0 : Int32) σ1 H locs ls h hB (lv_sub hl [0, 1] rfl)
  suffices hmain : ∀ (H : Heap) (locs : List Loc) (ls : Array Slot), tB g P σ A s.heap H locs → lv_has ls 3 [(0, .ref (gL g 0)), (1, .int a1)] → WQ p l e { frames := 1, cells := 0, slots := 0, locals := 22 } s m args below meth c g P A (some (.long r)) τ H locs (F0 m 0 ls []) from hmain _ _ ls0 hB0 hl0
  intro H locs ls hB hl
  unfold f_X11_slate at h
  refine lv_iload_n hx hb dX11_slate_0 rfl (lv_at hl 1 rfl) ?_
  refine lv_if_lt (tgt := 31) hx hb dX11_slate_1 (by decide) (fun c_1 => ?_) (fun c_1 => ?_)
  · replace h := itp h c_1
    exact hb_31 a1 σ H locs ls h hB (lv_sub hl [0, 1] rfl)
  · replace h := itn h c_1
    refine lv_iload_n hx hb dX11_slate_4 rfl (lv_at hl 1 rfl) ?_
    refine lv_aload_n hx hb dX11_slate_5 rfl (lv_at hl 0 rfl) ?_
    refine R_get (v := .ref (gL g 1)) hx hb ht ui_X11 hown hK hB (by decide) (cell_0 rfl) rfl 0 (by decide) (ht _ tw130) (fun _ h9 => h9) rfl dX11_slate_6 ?_
    refine R_get (v := .int (hI σ 1 3)) hx hb ht ui_X7 hown hK hB (by decide) (cell_1 rfl) rfl 3 (by decide) (ht _ tw54) (fun _ h9 => h9) rfl dX11_slate_9 ?_
    refine lv_icmp_ge (tgt := 31) hx hb dX11_slate_12 (by decide) (fun c_7 => ?_) (fun c_7 => ?_)
    · replace h := itp h c_7
      exact hb_31 a1 σ H locs ls h hB (lv_sub hl [0, 1] rfl)
    · replace h := itn h c_7
      refine lv_iload_n hx hb dX11_slate_15 rfl (lv_at hl 1 rfl) ?_
      refine lv_aload_n hx hb dX11_slate_16 rfl (lv_at hl 0 rfl) ?_
      refine R_get (v := .ref (gL g 1)) hx hb ht ui_X11 hown hK hB (by decide) (cell_0 rfl) rfl 0 (by decide) (ht _ tw130) (fun _ h9 => h9) rfl dX11_slate_17 ?_
      refine R_get (v := .ref (gL g 10)) hx hb ht ui_X7 hown hK hB (by decide) (cell_1 rfl) rfl 6 (by decide) (ht _ tw58) (fun _ h9 => h9) rfl dX11_slate_20 ?_
      refine R_alenJ hx hb (v := (20 : Int32)) hK hB rfl rfl dX11_slate_23 ?_
      refine lv_icmp_ge (tgt := 31) hx hb dX11_slate_24 (by decide) (fun c_8 => ?_) (fun c_8 => ?_)
      · replace h := itp h c_8
        exact hb_31 a1 σ H locs ls h hB (lv_sub hl [0, 1] rfl)
      · replace h := itn h c_8
        refine lv_iconst (v := 1) hx hb dX11_slate_27 (by decide) ?_
        refine lv_goto (tgt := 32) hx hb dX11_slate_28 (by decide) ?_
        exact hb_32 a1 (1 : Int32) σ H locs ls h hB (lv_sub hl [0, 1] rfl)
def f_X11_on_b40 (σ1 : Hp) : Option (Int32 × Hp) := b2 (f_X11_refuse (-6 : Int32) σ1) (fun r_9 s_10 => some (r_9, s_10))
def f_X11_on_t50 (x2 : Int32) (x3 : Nat) (x4 : Int32) (σ1 : Hp) : Option ((Int32 × Hp) ⊕ (Int32 × Hp)) := if x2 ≤ x4 then ex (some (x4, σ1)) else b2 (f_X7_goBy 1 x3 σ1) (fun r_15 s_16 => if r_15 = 0 then ex (some (x4, s_16)) else some (.inl ((x4 + 1), s_16)))
def f_X11_on_s50 (x2 : Int32) (x3 : Nat) (v : (Int32 × Hp)) : Option ((Int32 × Hp) ⊕ (Int32 × Hp)) := f_X11_on_t50 x2 x3 v.1 v.2
def f_X11_on (a1 : Int32) (a2 : Int32) (σ : Hp) : Option (Int32 × Hp) := b2 (f_X7_lawAt 1 a1 σ) (fun r_1 s_2 => cs r_1 (b2 (f_X11_refuse (-1 : Int32) s_2) (fun r_5 s_6 => some (r_5, s_6))) (fun y_4 => if a2 < (1 : Int32) then f_X11_on_b40 s_2 else if (20 : Int32) < a2 then f_X11_on_b40 s_2 else if (hI s_2 1 3) = 0 then f_X11_on_b40 s_2 else iter (f_X11_on_s50 a2 y_4) fuel ((0 : Int32), s_2)))
set_option maxHeartbeats 4000000 in
set_option maxRecDepth 100000 in
theorem c_X11_on (l : Launch) (g : tG) (P : Nat → Nat) (σ : Hp) (a1 : Int32) (a2 : Int32) (sz : Nat) {r : Int32} {τ : Hp} (h : f_X11_on a1 a2 σ = some (r, τ)) : Met l yX11_on (Cond.code yX11_on cX11_on 5 (some .int) :: tblG) ({ frames := 4, cells := 0, slots := 0, locals := 110 }) (va_Pc [.ref (gL g 0), .int a1, .int a2] (tPre g P σ sz)) (tQ (some (.int r)) (tPost g P τ (va_A (wC g P σ) sz)) (va_A (wC g P σ) sz)) 0 0 (va_A (wC g P σ) sz) := by
  refine T_start (B := fun A => tPost g P τ A) (by decide) (Nat.le_of_ble_eq_true rfl) ?_
  intro p e s m args below meth c ls0 A hx hb hml hr hown hlocks ht hnm hK hZ hA hB0 hl0
  have hb_40 : ∀ (σ1 : Hp) (H : Heap) (locs : List Loc) (ls : Array Slot), f_X11_on_b40 σ1 = some (r, τ) → tB g P σ1 A s.heap H locs → lv_has ls 5 [(0, .ref (gL g 0))] → WQ p l e { frames := 4, cells := 0, slots := 0, locals := 110 } s m args below meth c g P A (some (.int r)) τ H locs (F0 m 40 ls []) := by
    intro σ1 H locs ls h hB hl
    unfold f_X11_on_b40 at h
    refine lv_aload_n hx hb dX11_on_40 rfl (lv_at hl 0 rfl) ?_
    refine lv_bipush (v := -6) hx hb dX11_on_41 (by decide) ?_
    replace h := b2_eq h; obtain ⟨r_9, s_10, hc_11, h⟩ := h
    refine R_call (rest := []) [.int r_9] (R_runV (n := 1) (As := [.int (-6 : Int32)]) ⟨hx, hb, hml, hown, ht⟩ (fun _ h9 => h9) hK hZ hA hB (c_X11_refuse l g P σ1 (-6 : Int32) H.size hc_11) (R_recv hK hB (by decide) (cell_0 rfl) rfl) tw178 tw175 tw177 pw1 tw1 ⟨by decide, by decide, by decide⟩ rfl rfl ⟨Nat.le_of_ble_eq_true rfl, Nat.le_of_ble_eq_true rfl⟩ rfl hl.1 rfl (Nat.le_of_ble_eq_true rfl) dX11_on_43 ⟨Nat.zero_le _, Nat.zero_le _⟩) hB hA rfl (fun H locs hB => ?_)
    obtain ⟨rfl, rfl⟩ := Prod.mk.inj (Option.some.inj h)
    exact W.iret hx hb hr (R_end hB) hB.2.2.2.2 dX11_on_46
  have hL_50 : ∀ (x2 : Int32) (x3 : Nat) (n : Nat) (x4 : Int32) (σ1 : Hp) (H : Heap) (locs : List Loc) (ls : Array Slot), iter (f_X11_on_s50 x2 x3) n (x4, σ1) = some (r, τ) → tB g P σ1 A s.heap H locs → lv_has ls 5 [(0, .ref (gL g 0)), (2, .int x2), (3, .ref (P x3)), (4, .int x4)] → WQ p l e { frames := 4, cells := 0, slots := 0, locals := 110 } s m args below meth c g P A (some (.int r)) τ H locs (F0 m 50 ls []) := by
    intro x2 x3 n
    induction n with
    | zero =>
      intro x4 σ1 H locs ls h hB hl
      exact (iter_0 h).elim
    | succ n ih1 =>
      intro x4 σ1 H locs ls h hB hl
      replace h := iter_eq h; obtain ⟨z1, hh1, hx1⟩ := h
      have h : f_X11_on_t50 x2 x3 x4 σ1 = some z1 := hh1
      clear hh1
      unfold f_X11_on_t50 at h
      refine lv_iload hx hb dX11_on_50 (lv_at hl 3 rfl) ?_
      refine lv_iload_n hx hb dX11_on_52 rfl (lv_at hl 1 rfl) ?_
      refine lv_icmp_ge (tgt := 73) hx hb dX11_on_53 (by decide) (fun c_14 => ?_) (fun c_14 => ?_)
      · replace h := itp h c_14
        replace h := ex_eq h; obtain ⟨b1, h, hz1⟩ := h
        subst hz1
        have hz1 := (itk_inr hx1).symm
        subst hz1
        refine lv_iload hx hb dX11_on_73 (lv_at hl 3 rfl) ?_
        obtain ⟨rfl, rfl⟩ := Prod.mk.inj (Option.some.inj h)
        exact W.iret hx hb hr (R_end hB) hB.2.2.2.2 dX11_on_75
      · replace h := itn h c_14
        refine lv_aload_n hx hb dX11_on_56 rfl (lv_at hl 0 rfl) ?_
        refine R_get (v := .ref (gL g 1)) hx hb ht ui_X11 hown hK hB (by decide) (cell_0 rfl) rfl 0 (by decide) (ht _ tw130) (fun _ h9 => h9) rfl dX11_on_57 ?_
        refine lv_aload_n hx hb dX11_on_60 rfl (lv_at hl 2 rfl) ?_
        replace h := b2_eq h; obtain ⟨r_15, s_16, hc_17, h⟩ := h
        refine R_call (rest := []) [.int r_15] (R_runV (n := 1) (As := [.ref (P x3)]) ⟨hx, hb, hml, hown, ht⟩ (fun _ h9 => h9) hK hZ hA hB (c_X7_goBy l g P σ1 1 x3 rfl H.size hc_17) (R_recv hK hB (by decide) (cell_1 rfl) rfl) tw792 tw789 tw790 tw791 tw2 ⟨by decide, by decide, by decide⟩ rfl rfl ⟨Nat.le_of_ble_eq_true rfl, Nat.le_of_ble_eq_true rfl⟩ rfl hl.1 rfl (Nat.le_of_ble_eq_true rfl) dX11_on_61 ⟨Nat.zero_le _, Nat.zero_le _⟩) hB hA rfl (fun H locs hB => ?_)
        refine lv_if_eq (tgt := 73) hx hb dX11_on_64 (by decide) (fun c_18 => ?_) (fun c_18 => ?_)
        · replace h := itp h c_18
          replace h := ex_eq h; obtain ⟨b1, h, hz1⟩ := h
          subst hz1
          have hz1 := (itk_inr hx1).symm
          subst hz1
          refine lv_iload hx hb dX11_on_73 (lv_at hl 3 rfl) ?_
          obtain ⟨rfl, rfl⟩ := Prod.mk.inj (Option.some.inj h)
          exact W.iret hx hb hr (R_end hB) hB.2.2.2.2 dX11_on_75
        · replace h := itn h c_18
          refine lv_iinc (v := x4 + 1) (lv' := [(4, .int (x4 + 1)), (0, .ref (gL g 0)), (2, .int x2), (3, .ref (P x3))]) hx hb dX11_on_67 hl (k := 3) rfl rfl (by decide) rfl (fun ls hl => ?_)
          refine lv_goto (tgt := 50) hx hb dX11_on_70 (by decide) ?_
          obtain rfl := Option.some.inj h
          exact ih1 (x4 + 1) s_16 H locs ls hx1 hB (lv_sub hl [1, 2, 3, 0] rfl)
  suffices hmain : ∀ (H : Heap) (locs : List Loc) (ls : Array Slot), tB g P σ A s.heap H locs → lv_has ls 5 [(0, .ref (gL g 0)), (1, .int a1), (2, .int a2)] → WQ p l e { frames := 4, cells := 0, slots := 0, locals := 110 } s m args below meth c g P A (some (.int r)) τ H locs (F0 m 0 ls []) from hmain _ _ ls0 hB0 hl0
  intro H locs ls hB hl
  unfold f_X11_on at h
  refine lv_aload_n hx hb dX11_on_0 rfl (lv_at hl 0 rfl) ?_
  refine R_get (v := .ref (gL g 1)) hx hb ht ui_X11 hown hK hB (by decide) (cell_0 rfl) rfl 0 (by decide) (ht _ tw130) (fun _ h9 => h9) rfl dX11_on_1 ?_
  refine lv_iload_n hx hb dX11_on_4 rfl (lv_at hl 1 rfl) ?_
  replace h := b2_eq h; obtain ⟨r_1, s_2, hc_3, h⟩ := h
  refine R_call (rest := []) [va_rf (Option.map P r_1)] (R_runV (n := 1) (As := [.int a1]) ⟨hx, hb, hml, hown, ht⟩ (fun _ h9 => h9) hK hZ hA hB (c_X7_lawAt l g P σ 1 a1 rfl H.size hc_3) (R_recv hK hB (by decide) (cell_1 rfl) rfl) tw228 tw225 tw226 tw227 tw2 ⟨by decide, by decide, by decide⟩ rfl rfl ⟨Nat.le_of_ble_eq_true rfl, Nat.le_of_ble_eq_true rfl⟩ rfl hl.1 rfl (Nat.le_of_ble_eq_true rfl) dX11_on_5 ⟨Nat.zero_le _, Nat.zero_le _⟩) hB hA rfl (fun H locs hB => ?_)
  refine lv_astore_nR (lv' := [(3, va_rf (Option.map P r_1)), (0, .ref (gL g 0)), (1, .int a1), (2, .int a2)]) hx hb dX11_on_8 rfl hl (by decide) rfl (fun ls hl => ?_)
  refine lv_aload_nR hx hb dX11_on_9 rfl (lv_at hl 0 rfl) ?_
  rcases r_1 with _ | y_4
  · replace h := cs_n h
    have hl : lv_has ls 5 [(3, .null), (0, .ref (gL g 0)), (1, .int a1), (2, .int a2)] := hl
    refine lv_ifnonnullN hx hb dX11_on_10 ?_
    refine lv_aload_n hx hb dX11_on_13 rfl (lv_at hl 1 rfl) ?_
    refine lv_iconst (v := -1) hx hb dX11_on_14 (by decide) ?_
    replace h := b2_eq h; obtain ⟨r_5, s_6, hc_7, h⟩ := h
    refine R_call (rest := []) [.int r_5] (R_runV (n := 1) (As := [.int (-1 : Int32)]) ⟨hx, hb, hml, hown, ht⟩ (fun _ h9 => h9) hK hZ hA hB (c_X11_refuse l g P s_2 (-1 : Int32) H.size hc_7) (R_recv hK hB (by decide) (cell_0 rfl) rfl) tw178 tw175 tw177 pw1 tw1 ⟨by decide, by decide, by decide⟩ rfl rfl ⟨Nat.le_of_ble_eq_true rfl, Nat.le_of_ble_eq_true rfl⟩ rfl hl.1 rfl (Nat.le_of_ble_eq_true rfl) dX11_on_15 ⟨Nat.zero_le _, Nat.zero_le _⟩) hB hA rfl (fun H locs hB => ?_)
    obtain ⟨rfl, rfl⟩ := Prod.mk.inj (Option.some.inj h)
    exact W.iret hx hb hr (R_end hB) hB.2.2.2.2 dX11_on_18
  · replace h := cs_s h
    have hl : lv_has ls 5 [(3, .ref (P y_4)), (0, .ref (gL g 0)), (1, .int a1), (2, .int a2)] := hl
    refine lv_ifnonnull (tgt := 19) hx hb dX11_on_10 (by decide) ?_
    refine lv_iload_n hx hb dX11_on_19 rfl (lv_at hl 3 rfl) ?_
    refine lv_iconst (v := 1) hx hb dX11_on_20 (by decide) ?_
    refine lv_icmp_lt (tgt := 40) hx hb dX11_on_21 (by decide) (fun c_8 => ?_) (fun c_8 => ?_)
    · replace h := itp h c_8
      exact hb_40 s_2 H locs ls h hB (lv_sub hl [1] rfl)
    · replace h := itn h c_8
      refine lv_iload_n hx hb dX11_on_24 rfl (lv_at hl 3 rfl) ?_
      refine lv_bipush (v := 20) hx hb dX11_on_25 (by decide) ?_
      refine lv_icmp_gt (tgt := 40) hx hb dX11_on_27 (by decide) (fun c_12 => ?_) (fun c_12 => ?_)
      · replace h := itp h c_12
        exact hb_40 s_2 H locs ls h hB (lv_sub hl [1] rfl)
      · replace h := itn h c_12
        refine lv_aload_n hx hb dX11_on_30 rfl (lv_at hl 1 rfl) ?_
        refine R_get (v := .ref (gL g 1)) hx hb ht ui_X11 hown hK hB (by decide) (cell_0 rfl) rfl 0 (by decide) (ht _ tw130) (fun _ h9 => h9) rfl dX11_on_31 ?_
        refine R_get (v := .int (hI s_2 1 3)) hx hb ht ui_X7 hown hK hB (by decide) (cell_1 rfl) rfl 3 (by decide) (ht _ tw54) (fun _ h9 => h9) rfl dX11_on_34 ?_
        refine lv_if_ne (tgt := 47) hx hb dX11_on_37 (by decide) (fun c_13 => ?_) (fun c_13 => ?_)
        · replace h := itn h c_13
          refine lv_iconst (v := 0) hx hb dX11_on_47 (by decide) ?_
          refine lv_istore (lv' := [(4, .int (0 : Int32)), (3, .ref (P y_4)), (0, .ref (gL g 0)), (1, .int a1), (2, .int a2)]) hx hb dX11_on_48 hl (by decide) rfl (fun ls hl => ?_)
          exact hL_50 a2 y_4 fuel (0 : Int32) s_2 H locs ls h hB (lv_sub hl [2, 4, 1, 0] rfl)
        · replace h := itp h c_13
          exact hb_40 s_2 H locs ls h hB (lv_sub hl [1] rfl)
def f_X11_wipe_b10 (σ1 : Hp) : Option (Int32 × Hp) := b2 (f_X11_refuse (-6 : Int32) σ1) (fun r_2 s_3 => some (r_2, s_3))
def f_X11_wipe (a1 : Int32) (σ : Hp) : Option (Int32 × Hp) := if a1 < 0 then f_X11_wipe_b10 σ else if a1 ≤ (20 : Int32) then some ((hI (sI σ 1 3 (if (0 : Int32) < ((hI σ 1 3) - a1) then ((hI σ 1 3) - a1) else (0 : Int32))) 1 3), (sI σ 1 3 (if (0 : Int32) < ((hI σ 1 3) - a1) then ((hI σ 1 3) - a1) else (0 : Int32)))) else f_X11_wipe_b10 σ
set_option maxHeartbeats 4000000 in
set_option maxRecDepth 100000 in
theorem c_X11_wipe (l : Launch) (g : tG) (P : Nat → Nat) (σ : Hp) (a1 : Int32) (sz : Nat) {r : Int32} {τ : Hp} (h : f_X11_wipe a1 σ = some (r, τ)) : Met l yX11_wipe (Cond.code yX11_wipe cX11_wipe 2 (some .int) :: tblG) ({ frames := 1, cells := 0, slots := 0, locals := 23 }) (va_Pc [.ref (gL g 0), .int a1] (tPre g P σ sz)) (tQ (some (.int r)) (tPost g P τ (va_A (wC g P σ) sz)) (va_A (wC g P σ) sz)) 0 0 (va_A (wC g P σ) sz) := by
  refine T_start (B := fun A => tPost g P τ A) (by decide) (Nat.le_of_ble_eq_true rfl) ?_
  intro p e s m args below meth c ls0 A hx hb hml hr hown hlocks ht hnm hK hZ hA hB0 hl0
  have hb_10 : ∀ (σ1 : Hp) (H : Heap) (locs : List Loc) (ls : Array Slot), f_X11_wipe_b10 σ1 = some (r, τ) → tB g P σ1 A s.heap H locs → lv_has ls 2 [(0, .ref (gL g 0))] → WQ p l e { frames := 1, cells := 0, slots := 0, locals := 23 } s m args below meth c g P A (some (.int r)) τ H locs (F0 m 10 ls []) := by
    intro σ1 H locs ls h hB hl
    unfold f_X11_wipe_b10 at h
    refine lv_aload_n hx hb dX11_wipe_10 rfl (lv_at hl 0 rfl) ?_
    refine lv_bipush (v := -6) hx hb dX11_wipe_11 (by decide) ?_
    replace h := b2_eq h; obtain ⟨r_2, s_3, hc_4, h⟩ := h
    refine R_call (rest := []) [.int r_2] (R_runV (n := 1) (As := [.int (-6 : Int32)]) ⟨hx, hb, hml, hown, ht⟩ (fun _ h9 => h9) hK hZ hA hB (c_X11_refuse l g P σ1 (-6 : Int32) H.size hc_4) (R_recv hK hB (by decide) (cell_0 rfl) rfl) tw178 tw175 tw177 pw1 tw1 ⟨by decide, by decide, by decide⟩ rfl rfl ⟨Nat.le_of_ble_eq_true rfl, Nat.le_of_ble_eq_true rfl⟩ rfl hl.1 rfl (Nat.le_of_ble_eq_true rfl) dX11_wipe_13 ⟨Nat.zero_le _, Nat.zero_le _⟩) hB hA rfl (fun H locs hB => ?_)
    obtain ⟨rfl, rfl⟩ := Prod.mk.inj (Option.some.inj h)
    exact W.iret hx hb hr (R_end hB) hB.2.2.2.2 dX11_wipe_16
  suffices hmain : ∀ (H : Heap) (locs : List Loc) (ls : Array Slot), tB g P σ A s.heap H locs → lv_has ls 2 [(0, .ref (gL g 0)), (1, .int a1)] → WQ p l e { frames := 1, cells := 0, slots := 0, locals := 23 } s m args below meth c g P A (some (.int r)) τ H locs (F0 m 0 ls []) from hmain _ _ ls0 hB0 hl0
  intro H locs ls hB hl
  unfold f_X11_wipe at h
  refine lv_iload_n hx hb dX11_wipe_0 rfl (lv_at hl 1 rfl) ?_
  refine lv_if_lt (tgt := 10) hx hb dX11_wipe_1 (by decide) (fun c_1 => ?_) (fun c_1 => ?_)
  · replace h := itp h c_1
    exact hb_10 σ H locs ls h hB (lv_sub hl [0] rfl)
  · replace h := itn h c_1
    refine lv_iload_n hx hb dX11_wipe_4 rfl (lv_at hl 1 rfl) ?_
    refine lv_bipush (v := 20) hx hb dX11_wipe_5 (by decide) ?_
    refine lv_icmp_le (tgt := 17) hx hb dX11_wipe_7 (by decide) (fun c_5 => ?_) (fun c_5 => ?_)
    · replace h := itp h c_5
      refine lv_aload_n hx hb dX11_wipe_17 rfl (lv_at hl 0 rfl) ?_
      refine R_get (v := .ref (gL g 1)) hx hb ht ui_X11 hown hK hB (by decide) (cell_0 rfl) rfl 0 (by decide) (ht _ tw130) (fun _ h9 => h9) rfl dX11_wipe_18 ?_
      refine lv_iconst (v := 0) hx hb dX11_wipe_21 (by decide) ?_
      refine lv_aload_n hx hb dX11_wipe_22 rfl (lv_at hl 0 rfl) ?_
      refine R_get (v := .ref (gL g 1)) hx hb ht ui_X11 hown hK hB (by decide) (cell_0 rfl) rfl 0 (by decide) (ht _ tw130) (fun _ h9 => h9) rfl dX11_wipe_23 ?_
      refine R_get (v := .int (hI σ 1 3)) hx hb ht ui_X7 hown hK hB (by decide) (cell_1 rfl) rfl 3 (by decide) (ht _ tw54) (fun _ h9 => h9) rfl dX11_wipe_26 ?_
      refine lv_iload_n hx hb dX11_wipe_29 rfl (lv_at hl 1 rfl) ?_
      refine lv_isub hx hb dX11_wipe_30 ?_
      refine va_mmax hx hb (by rw [hml]; exact hl.1.symm) hown (ht _ tw801) (ht _ tw802) (ht _ tw9) (ht _ tw803) (Nat.le_of_ble_eq_true rfl) (Nat.le_of_ble_eq_true rfl) (Nat.zero_le _) (Nat.zero_le _) dX11_wipe_31 ?_
      refine R_putI (v := (if (0 : Int32) < ((hI σ 1 3) - a1) then ((hI σ 1 3) - a1) else (0 : Int32))) (ty := .int) hx hb ht ui_X7 tyX7 tyX7_ok nmX7 hown hK hB (by decide) (cell_1 rfl) rfl 3 (by decide) (ht _ tw54) (fun _ h9 => h9) rfl (by decide +kernel) rfl rfl (Nat.le_of_ble_eq_true rfl) (st1_3 rfl) dX11_wipe_34 (fun H locs hB => ?_)
      refine lv_aload_n hx hb dX11_wipe_37 rfl (lv_at hl 0 rfl) ?_
      refine R_get (v := .ref (gL g 1)) hx hb ht ui_X11 hown hK hB (by decide) (cell_0 rfl) rfl 0 (by decide) (ht _ tw130) (fun _ h9 => h9) rfl dX11_wipe_38 ?_
      refine R_get (v := .int (hI (sI σ 1 3 (if (0 : Int32) < ((hI σ 1 3) - a1) then ((hI σ 1 3) - a1) else (0 : Int32))) 1 3)) hx hb ht ui_X7 hown hK hB (by decide) (cell_1 rfl) rfl 3 (by decide) (ht _ tw54) (fun _ h9 => h9) rfl dX11_wipe_41 ?_
      obtain ⟨rfl, rfl⟩ := Prod.mk.inj (Option.some.inj h)
      exact W.iret hx hb hr (R_end hB) hB.2.2.2.2 dX11_wipe_44
    · replace h := itn h c_5
      exact hb_10 σ H locs ls h hB (lv_sub hl [0] rfl)
def f_X11_holdLesson_t56 (x1 : Nat) (x2 : Int32) (σ1 : Hp) : Option ((Int32 × Hp) ⊕ (Int32 × Hp)) := if (20 : Int32) ≤ x2 then ex (some ((0 : Int32), σ1)) else b2 (f_X7_lastNumber 1 σ1) (fun r_15 s_16 => b2 (f_X11_isAlike r_15 s_16) (fun r_18 s_19 => if r_18 = 0 then b2 (f_X7_goBy 1 x1 s_19) (fun r_22 s_23 => if r_22 = 0 then ex (some ((0 : Int32), s_23)) else some (.inl ((x2 + 1), s_23))) else ex (some ((1 : Int32), s_19))))
def f_X11_holdLesson_s56 (x1 : Nat) (v : (Int32 × Hp)) : Option ((Int32 × Hp) ⊕ (Int32 × Hp)) := f_X11_holdLesson_t56 x1 v.1 v.2
def f_X11_holdLesson (σ : Hp) : Option (Int32 × Hp) := b2 (f_X7_draw 1 (1000 : Int32) (sI σ 1 3 (0 : Int32))) (fun r_1 s_2 => b2 (f_X7_put 1 r_1.toInt64 s_2) (fun r_4 s_5 => b2 (f_X7_draw 1 (hI s_5 1 2) s_5) (fun r_7 s_8 => b2 (f_X7_lawAt 1 r_7 s_8) (fun r_10 s_11 => cs r_10 (some ((0 : Int32), s_11)) (fun y_13 => iter (f_X11_holdLesson_s56 y_13) fuel ((0 : Int32), s_11))))))
set_option maxHeartbeats 4000000 in
set_option maxRecDepth 100000 in
theorem c_X11_holdLesson (l : Launch) (g : tG) (P : Nat → Nat) (σ : Hp) (sz : Nat) {r : Int32} {τ : Hp} (h : f_X11_holdLesson σ = some (r, τ)) : Met l yX11_holdLesson (Cond.code yX11_holdLesson cX11_holdLesson 3 (some .boolean) :: tblG) ({ frames := 4, cells := 0, slots := 0, locals := 110 }) (va_Pc [.ref (gL g 0)] (tPre g P σ sz)) (tQ (some (.int r)) (tPost g P τ (va_A (wC g P σ) sz)) (va_A (wC g P σ) sz)) 0 0 (va_A (wC g P σ) sz) := by
  refine T_start (B := fun A => tPost g P τ A) (by decide) (Nat.le_of_ble_eq_true rfl) ?_
  intro p e s m args below meth c ls0 A hx hb hml hr hown hlocks ht hnm hK hZ hA hB0 hl0
  have hL_56 : ∀ (x1 : Nat) (n : Nat) (x2 : Int32) (σ1 : Hp) (H : Heap) (locs : List Loc) (ls : Array Slot), iter (f_X11_holdLesson_s56 x1) n (x2, σ1) = some (r, τ) → tB g P σ1 A s.heap H locs → lv_has ls 3 [(0, .ref (gL g 0)), (1, .ref (P x1)), (2, .int x2)] → WQ p l e { frames := 4, cells := 0, slots := 0, locals := 110 } s m args below meth c g P A (some (.int r)) τ H locs (F0 m 56 ls []) := by
    intro x1 n
    induction n with
    | zero =>
      intro x2 σ1 H locs ls h hB hl
      exact (iter_0 h).elim
    | succ n ih1 =>
      intro x2 σ1 H locs ls h hB hl
      replace h := iter_eq h; obtain ⟨z1, hh1, hx1⟩ := h
      have h : f_X11_holdLesson_t56 x1 x2 σ1 = some z1 := hh1
      clear hh1
      unfold f_X11_holdLesson_t56 at h
      refine lv_iload_n hx hb dX11_holdLesson_56 rfl (lv_at hl 2 rfl) ?_
      refine lv_bipush (v := 20) hx hb dX11_holdLesson_57 (by decide) ?_
      refine lv_icmp_ge (tgt := 97) hx hb dX11_holdLesson_59 (by decide) (fun c_14 => ?_) (fun c_14 => ?_)
      · replace h := itp h c_14
        replace h := ex_eq h; obtain ⟨b1, h, hz1⟩ := h
        subst hz1
        have hz1 := (itk_inr hx1).symm
        subst hz1
        refine lv_iconst (v := 0) hx hb dX11_holdLesson_97 (by decide) ?_
        obtain ⟨rfl, rfl⟩ := Prod.mk.inj (Option.some.inj h)
        exact W.zret hx hb hr rfl (R_end hB) hB.2.2.2.2 dX11_holdLesson_98
      · replace h := itn h c_14
        refine lv_aload_n hx hb dX11_holdLesson_62 rfl (lv_at hl 0 rfl) ?_
        refine lv_aload_n hx hb dX11_holdLesson_63 rfl (lv_at hl 0 rfl) ?_
        refine R_get (v := .ref (gL g 1)) hx hb ht ui_X11 hown hK hB (by decide) (cell_0 rfl) rfl 0 (by decide) (ht _ tw130) (fun _ h9 => h9) rfl dX11_holdLesson_64 ?_
        replace h := b2_eq h; obtain ⟨r_15, s_16, hc_17, h⟩ := h
        refine R_call (rest := [.ref (gL g 0)]) [.long r_15, .ref (gL g 0)] (R_runV (n := 0) (As := []) ⟨hx, hb, hml, hown, ht⟩ (fun _ h9 => h9) hK hZ hA hB (c_X7_lastNumber l g P σ1 1 rfl H.size hc_17) (R_recv hK hB (by decide) (cell_1 rfl) rfl) tw607 tw817 tw605 tw606 tw2 ⟨by decide, by decide, by decide⟩ rfl rfl ⟨Nat.le_of_ble_eq_true rfl, Nat.le_of_ble_eq_true rfl⟩ rfl hl.1 rfl (Nat.le_of_ble_eq_true rfl) dX11_holdLesson_67 ⟨Nat.zero_le _, Nat.zero_le _⟩) hB hA rfl (fun H locs hB => ?_)
        replace h := b2_eq h; obtain ⟨r_18, s_19, hc_20, h⟩ := h
        refine R_call (rest := []) [.int r_18] (R_runV (n := 1) (As := [.long r_15]) ⟨hx, hb, hml, hown, ht⟩ (fun _ h9 => h9) hK hZ hA hB (c_X11_isAlike l g P s_16 r_15 H.size hc_20) (R_recv hK hB (by decide) (cell_0 rfl) rfl) tw636 tw633 tw635 pw14 tw1 ⟨by decide, by decide, by decide⟩ rfl rfl ⟨Nat.le_of_ble_eq_true rfl, Nat.le_of_ble_eq_true rfl⟩ rfl hl.1 rfl (Nat.le_of_ble_eq_true rfl) dX11_holdLesson_70 ⟨Nat.zero_le _, Nat.zero_le _⟩) hB hA rfl (fun H locs hB => ?_)
        refine lv_if_eq (tgt := 78) hx hb dX11_holdLesson_73 (by decide) (fun c_21 => ?_) (fun c_21 => ?_)
        · replace h := itp h c_21
          refine lv_aload_n hx hb dX11_holdLesson_78 rfl (lv_at hl 0 rfl) ?_
          refine R_get (v := .ref (gL g 1)) hx hb ht ui_X11 hown hK hB (by decide) (cell_0 rfl) rfl 0 (by decide) (ht _ tw130) (fun _ h9 => h9) rfl dX11_holdLesson_79 ?_
          refine lv_aload_n hx hb dX11_holdLesson_82 rfl (lv_at hl 1 rfl) ?_
          replace h := b2_eq h; obtain ⟨r_22, s_23, hc_24, h⟩ := h
          refine R_call (rest := []) [.int r_22] (R_runV (n := 1) (As := [.ref (P x1)]) ⟨hx, hb, hml, hown, ht⟩ (fun _ h9 => h9) hK hZ hA hB (c_X7_goBy l g P s_19 1 x1 rfl H.size hc_24) (R_recv hK hB (by decide) (cell_1 rfl) rfl) tw792 tw789 tw790 tw791 tw2 ⟨by decide, by decide, by decide⟩ rfl rfl ⟨Nat.le_of_ble_eq_true rfl, Nat.le_of_ble_eq_true rfl⟩ rfl hl.1 rfl (Nat.le_of_ble_eq_true rfl) dX11_holdLesson_83 ⟨Nat.zero_le _, Nat.zero_le _⟩) hB hA rfl (fun H locs hB => ?_)
          refine lv_if_ne (tgt := 91) hx hb dX11_holdLesson_86 (by decide) (fun c_25 => ?_) (fun c_25 => ?_)
          · replace h := itn h c_25
            refine lv_iinc (v := x2 + 1) (lv' := [(2, .int (x2 + 1)), (0, .ref (gL g 0)), (1, .ref (P x1))]) hx hb dX11_holdLesson_91 hl (k := 2) rfl rfl (by decide) rfl (fun ls hl => ?_)
            refine lv_goto (tgt := 56) hx hb dX11_holdLesson_94 (by decide) ?_
            obtain rfl := Option.some.inj h
            exact ih1 (x2 + 1) s_23 H locs ls hx1 hB (lv_sub hl [1, 2, 0] rfl)
          · replace h := itp h c_25
            replace h := ex_eq h; obtain ⟨b1, h, hz1⟩ := h
            subst hz1
            have hz1 := (itk_inr hx1).symm
            subst hz1
            refine lv_iconst (v := 0) hx hb dX11_holdLesson_89 (by decide) ?_
            obtain ⟨rfl, rfl⟩ := Prod.mk.inj (Option.some.inj h)
            exact W.zret hx hb hr rfl (R_end hB) hB.2.2.2.2 dX11_holdLesson_90
        · replace h := itn h c_21
          replace h := ex_eq h; obtain ⟨b1, h, hz1⟩ := h
          subst hz1
          have hz1 := (itk_inr hx1).symm
          subst hz1
          refine lv_iconst (v := 1) hx hb dX11_holdLesson_76 (by decide) ?_
          obtain ⟨rfl, rfl⟩ := Prod.mk.inj (Option.some.inj h)
          exact W.zret hx hb hr rfl (R_end hB) hB.2.2.2.2 dX11_holdLesson_77
  suffices hmain : ∀ (H : Heap) (locs : List Loc) (ls : Array Slot), tB g P σ A s.heap H locs → lv_has ls 3 [(0, .ref (gL g 0))] → WQ p l e { frames := 4, cells := 0, slots := 0, locals := 110 } s m args below meth c g P A (some (.int r)) τ H locs (F0 m 0 ls []) from hmain _ _ ls0 hB0 hl0
  intro H locs ls hB hl
  unfold f_X11_holdLesson at h
  refine lv_aload_n hx hb dX11_holdLesson_0 rfl (lv_at hl 0 rfl) ?_
  refine R_get (v := .ref (gL g 1)) hx hb ht ui_X11 hown hK hB (by decide) (cell_0 rfl) rfl 0 (by decide) (ht _ tw130) (fun _ h9 => h9) rfl dX11_holdLesson_1 ?_
  refine lv_iconst (v := 0) hx hb dX11_holdLesson_4 (by decide) ?_
  refine R_putI (v := (0 : Int32)) (ty := .int) hx hb ht ui_X7 tyX7 tyX7_ok nmX7 hown hK hB (by decide) (cell_1 rfl) rfl 3 (by decide) (ht _ tw54) (fun _ h9 => h9) rfl (by decide +kernel) rfl rfl (Nat.le_of_ble_eq_true rfl) (st1_3 rfl) dX11_holdLesson_5 (fun H locs hB => ?_)
  refine lv_aload_n hx hb dX11_holdLesson_8 rfl (lv_at hl 0 rfl) ?_
  refine R_get (v := .ref (gL g 1)) hx hb ht ui_X11 hown hK hB (by decide) (cell_0 rfl) rfl 0 (by decide) (ht _ tw130) (fun _ h9 => h9) rfl dX11_holdLesson_9 ?_
  refine lv_aload_n hx hb dX11_holdLesson_12 rfl (lv_at hl 0 rfl) ?_
  refine R_get (v := .ref (gL g 1)) hx hb ht ui_X11 hown hK hB (by decide) (cell_0 rfl) rfl 0 (by decide) (ht _ tw130) (fun _ h9 => h9) rfl dX11_holdLesson_13 ?_
  refine lv_sipush (v := 1000) hx hb dX11_holdLesson_16 (by decide) ?_
  replace h := b2_eq h; obtain ⟨r_1, s_2, hc_3, h⟩ := h
  refine R_call (rest := [.ref (gL g 1)]) [.int r_1, .ref (gL g 1)] (R_runV (n := 1) (As := [.int (1000 : Int32)]) ⟨hx, hb, hml, hown, ht⟩ (fun _ h9 => h9) hK hZ hA hB (c_X7_draw l g P (sI σ 1 3 (0 : Int32)) 1 (1000 : Int32) rfl H.size hc_3) (R_recv hK hB (by decide) (cell_1 rfl) rfl) tw815 tw812 tw813 tw814 tw2 ⟨by decide, by decide, by decide⟩ rfl rfl ⟨Nat.le_of_ble_eq_true rfl, Nat.le_of_ble_eq_true rfl⟩ rfl hl.1 rfl (Nat.le_of_ble_eq_true rfl) dX11_holdLesson_19 ⟨Nat.zero_le _, Nat.zero_le _⟩) hB hA rfl (fun H locs hB => ?_)
  refine lv_i2l (v := r_1.toInt64) hx hb dX11_holdLesson_22 rfl ?_
  replace h := b2_eq h; obtain ⟨r_4, s_5, hc_6, h⟩ := h
  refine R_call (rest := []) [] (R_runV (n := 1) (As := [.long r_1.toInt64]) ⟨hx, hb, hml, hown, ht⟩ (fun _ h9 => h9) hK hZ hA hB (c_X7_put l g P s_2 1 r_1.toInt64 rfl H.size hc_6) (R_recv hK hB (by decide) (cell_1 rfl) rfl) tw597 tw780 tw595 tw596 tw2 ⟨by decide, by decide, by decide⟩ rfl rfl ⟨Nat.le_of_ble_eq_true rfl, Nat.le_of_ble_eq_true rfl⟩ rfl hl.1 rfl (Nat.le_of_ble_eq_true rfl) dX11_holdLesson_23 ⟨Nat.zero_le _, Nat.zero_le _⟩) hB hA rfl (fun H locs hB => ?_)
  refine lv_aload_n hx hb dX11_holdLesson_26 rfl (lv_at hl 0 rfl) ?_
  refine R_get (v := .ref (gL g 1)) hx hb ht ui_X11 hown hK hB (by decide) (cell_0 rfl) rfl 0 (by decide) (ht _ tw130) (fun _ h9 => h9) rfl dX11_holdLesson_27 ?_
  refine lv_aload_n hx hb dX11_holdLesson_30 rfl (lv_at hl 0 rfl) ?_
  refine R_get (v := .ref (gL g 1)) hx hb ht ui_X11 hown hK hB (by decide) (cell_0 rfl) rfl 0 (by decide) (ht _ tw130) (fun _ h9 => h9) rfl dX11_holdLesson_31 ?_
  refine lv_aload_n hx hb dX11_holdLesson_34 rfl (lv_at hl 0 rfl) ?_
  refine R_get (v := .ref (gL g 1)) hx hb ht ui_X11 hown hK hB (by decide) (cell_0 rfl) rfl 0 (by decide) (ht _ tw130) (fun _ h9 => h9) rfl dX11_holdLesson_35 ?_
  refine R_get (v := .int (hI s_5 1 2)) hx hb ht ui_X7 hown hK hB (by decide) (cell_1 rfl) rfl 2 (by decide) (ht _ tw51) (fun _ h9 => h9) rfl dX11_holdLesson_38 ?_
  replace h := b2_eq h; obtain ⟨r_7, s_8, hc_9, h⟩ := h
  refine R_call (rest := [.ref (gL g 1)]) [.int r_7, .ref (gL g 1)] (R_runV (n := 1) (As := [.int (hI s_5 1 2)]) ⟨hx, hb, hml, hown, ht⟩ (fun _ h9 => h9) hK hZ hA hB (c_X7_draw l g P s_5 1 (hI s_5 1 2) rfl H.size hc_9) (R_recv hK hB (by decide) (cell_1 rfl) rfl) tw815 tw812 tw813 tw814 tw2 ⟨by decide, by decide, by decide⟩ rfl rfl ⟨Nat.le_of_ble_eq_true rfl, Nat.le_of_ble_eq_true rfl⟩ rfl hl.1 rfl (Nat.le_of_ble_eq_true rfl) dX11_holdLesson_41 ⟨Nat.zero_le _, Nat.zero_le _⟩) hB hA rfl (fun H locs hB => ?_)
  replace h := b2_eq h; obtain ⟨r_10, s_11, hc_12, h⟩ := h
  refine R_call (rest := []) [va_rf (Option.map P r_10)] (R_runV (n := 1) (As := [.int r_7]) ⟨hx, hb, hml, hown, ht⟩ (fun _ h9 => h9) hK hZ hA hB (c_X7_lawAt l g P s_8 1 r_7 rfl H.size hc_12) (R_recv hK hB (by decide) (cell_1 rfl) rfl) tw228 tw225 tw226 tw227 tw2 ⟨by decide, by decide, by decide⟩ rfl rfl ⟨Nat.le_of_ble_eq_true rfl, Nat.le_of_ble_eq_true rfl⟩ rfl hl.1 rfl (Nat.le_of_ble_eq_true rfl) dX11_holdLesson_44 ⟨Nat.zero_le _, Nat.zero_le _⟩) hB hA rfl (fun H locs hB => ?_)
  refine lv_astore_nR (lv' := [(1, va_rf (Option.map P r_10)), (0, .ref (gL g 0))]) hx hb dX11_holdLesson_47 rfl hl (by decide) rfl (fun ls hl => ?_)
  refine lv_aload_nR hx hb dX11_holdLesson_48 rfl (lv_at hl 0 rfl) ?_
  rcases r_10 with _ | y_13
  · replace h := cs_n h
    have hl : lv_has ls 3 [(1, .null), (0, .ref (gL g 0))] := hl
    refine lv_ifnonnullN hx hb dX11_holdLesson_49 ?_
    refine lv_iconst (v := 0) hx hb dX11_holdLesson_52 (by decide) ?_
    obtain ⟨rfl, rfl⟩ := Prod.mk.inj (Option.some.inj h)
    exact W.zret hx hb hr rfl (R_end hB) hB.2.2.2.2 dX11_holdLesson_53
  · replace h := cs_s h
    have hl : lv_has ls 3 [(1, .ref (P y_13)), (0, .ref (gL g 0))] := hl
    refine lv_ifnonnull (tgt := 54) hx hb dX11_holdLesson_49 (by decide) ?_
    refine lv_iconst (v := 0) hx hb dX11_holdLesson_54 (by decide) ?_
    refine lv_istore_n (lv' := [(2, .int (0 : Int32)), (1, .ref (P y_13)), (0, .ref (gL g 0))]) hx hb dX11_holdLesson_55 rfl hl (by decide) rfl (fun ls hl => ?_)
    exact hL_56 y_13 fuel (0 : Int32) s_11 H locs ls h hB (lv_sub hl [2, 1, 0] rfl)
def f_X11_lessons_b28 (σ1 : Hp) : Option (Int32 × Hp) := b2 (f_X11_refuse (-6 : Int32) σ1) (fun r_3 s_4 => some (r_3, s_4))
def f_X11_lessons_b54 (x1 : Int32) (x2 : Int32) (x3 : Int32) (σ1 : Hp) : Option ((Int32 × Int32 × Hp) ⊕ (Int32 × Hp)) := some (.inl (x2, (x3 + 1), σ1))
def f_X11_lessons_t39 (x1 : Int32) (x2 : Int32) (x3 : Int32) (σ1 : Hp) : Option ((Int32 × Int32 × Hp) ⊕ (Int32 × Hp)) := if x1 ≤ x3 then ex (some (x2, σ1)) else b2 (f_X11_holdLesson σ1) (fun r_8 s_9 => if r_8 = 0 then f_X11_lessons_b54 x1 x2 x3 s_9 else f_X11_lessons_b54 x1 (x2 + 1) x3 s_9)
def f_X11_lessons_s39 (x1 : Int32) (v : (Int32 × Int32 × Hp)) : Option ((Int32 × Int32 × Hp) ⊕ (Int32 × Hp)) := f_X11_lessons_t39 x1 v.1 v.2.1 v.2.2
def f_X11_lessons (a1 : Int32) (σ : Hp) : Option (Int32 × Hp) := if (hI σ 1 2) = 0 then b2 (f_X11_refuse (-5 : Int32) σ) (fun r_12 s_13 => some (r_12, s_13)) else if a1 < (1 : Int32) then f_X11_lessons_b28 σ else if a1 ≤ (9 : Int32) then iter (f_X11_lessons_s39 a1) fuel ((0 : Int32), (0 : Int32), σ) else f_X11_lessons_b28 σ
set_option maxHeartbeats 4000000 in
set_option maxRecDepth 100000 in
theorem c_X11_lessons (l : Launch) (g : tG) (P : Nat → Nat) (σ : Hp) (a1 : Int32) (sz : Nat) {r : Int32} {τ : Hp} (h : f_X11_lessons a1 σ = some (r, τ)) : Met l yX11_lessons (Cond.code yX11_lessons cX11_lessons 4 (some .int) :: tblG) ({ frames := 5, cells := 0, slots := 0, locals := 132 }) (va_Pc [.ref (gL g 0), .int a1] (tPre g P σ sz)) (tQ (some (.int r)) (tPost g P τ (va_A (wC g P σ) sz)) (va_A (wC g P σ) sz)) 0 0 (va_A (wC g P σ) sz) := by
  refine T_start (B := fun A => tPost g P τ A) (by decide) (Nat.le_of_ble_eq_true rfl) ?_
  intro p e s m args below meth c ls0 A hx hb hml hr hown hlocks ht hnm hK hZ hA hB0 hl0
  have hb_28 : ∀ (σ1 : Hp) (H : Heap) (locs : List Loc) (ls : Array Slot), f_X11_lessons_b28 σ1 = some (r, τ) → tB g P σ1 A s.heap H locs → lv_has ls 4 [(0, .ref (gL g 0))] → WQ p l e { frames := 5, cells := 0, slots := 0, locals := 132 } s m args below meth c g P A (some (.int r)) τ H locs (F0 m 28 ls []) := by
    intro σ1 H locs ls h hB hl
    unfold f_X11_lessons_b28 at h
    refine lv_aload_n hx hb dX11_lessons_28 rfl (lv_at hl 0 rfl) ?_
    refine lv_bipush (v := -6) hx hb dX11_lessons_29 (by decide) ?_
    replace h := b2_eq h; obtain ⟨r_3, s_4, hc_5, h⟩ := h
    refine R_call (rest := []) [.int r_3] (R_runV (n := 1) (As := [.int (-6 : Int32)]) ⟨hx, hb, hml, hown, ht⟩ (fun _ h9 => h9) hK hZ hA hB (c_X11_refuse l g P σ1 (-6 : Int32) H.size hc_5) (R_recv hK hB (by decide) (cell_0 rfl) rfl) tw178 tw175 tw177 pw1 tw1 ⟨by decide, by decide, by decide⟩ rfl rfl ⟨Nat.le_of_ble_eq_true rfl, Nat.le_of_ble_eq_true rfl⟩ rfl hl.1 rfl (Nat.le_of_ble_eq_true rfl) dX11_lessons_31 ⟨Nat.zero_le _, Nat.zero_le _⟩) hB hA rfl (fun H locs hB => ?_)
    obtain ⟨rfl, rfl⟩ := Prod.mk.inj (Option.some.inj h)
    exact W.iret hx hb hr (R_end hB) hB.2.2.2.2 dX11_lessons_34
  have hL_39 : ∀ (x1 : Int32) (n : Nat) (x2 : Int32) (x3 : Int32) (σ1 : Hp) (H : Heap) (locs : List Loc) (ls : Array Slot), iter (f_X11_lessons_s39 x1) n (x2, x3, σ1) = some (r, τ) → tB g P σ1 A s.heap H locs → lv_has ls 4 [(0, .ref (gL g 0)), (1, .int x1), (2, .int x2), (3, .int x3)] → WQ p l e { frames := 5, cells := 0, slots := 0, locals := 132 } s m args below meth c g P A (some (.int r)) τ H locs (F0 m 39 ls []) := by
    intro x1 n
    induction n with
    | zero =>
      intro x2 x3 σ1 H locs ls h hB hl
      exact (iter_0 h).elim
    | succ n ih1 =>
      intro x2 x3 σ1 H locs ls h hB hl
      replace h := iter_eq h; obtain ⟨z1, hh1, hx1⟩ := h
      have hb_54 : ∀ (x2 : Int32) (x3 : Int32) (σ1 : Hp) (H : Heap) (locs : List Loc) (ls : Array Slot), f_X11_lessons_b54 x1 x2 x3 σ1 = some z1 → tB g P σ1 A s.heap H locs → lv_has ls 4 [(0, .ref (gL g 0)), (1, .int x1), (2, .int x2), (3, .int x3)] → WQ p l e { frames := 5, cells := 0, slots := 0, locals := 132 } s m args below meth c g P A (some (.int r)) τ H locs (F0 m 54 ls []) := by
        intro x2 x3 σ1 H locs ls h hB hl
        unfold f_X11_lessons_b54 at h
        refine lv_iinc (v := x3 + 1) (lv' := [(3, .int (x3 + 1)), (0, .ref (gL g 0)), (1, .int x1), (2, .int x2)]) hx hb dX11_lessons_54 hl (k := 3) rfl rfl (by decide) rfl (fun ls hl => ?_)
        refine lv_goto (tgt := 39) hx hb dX11_lessons_57 (by decide) ?_
        obtain rfl := Option.some.inj h
        exact ih1 x2 (x3 + 1) σ1 H locs ls hx1 hB (lv_sub hl [1, 2, 3, 0] rfl)
      have h : f_X11_lessons_t39 x1 x2 x3 σ1 = some z1 := hh1
      clear hh1
      unfold f_X11_lessons_t39 at h
      refine lv_iload_n hx hb dX11_lessons_39 rfl (lv_at hl 3 rfl) ?_
      refine lv_iload_n hx hb dX11_lessons_40 rfl (lv_at hl 1 rfl) ?_
      refine lv_icmp_ge (tgt := 60) hx hb dX11_lessons_41 (by decide) (fun c_7 => ?_) (fun c_7 => ?_)
      · replace h := itp h c_7
        replace h := ex_eq h; obtain ⟨b1, h, hz1⟩ := h
        subst hz1
        have hz1 := (itk_inr hx1).symm
        subst hz1
        refine lv_iload_n hx hb dX11_lessons_60 rfl (lv_at hl 2 rfl) ?_
        obtain ⟨rfl, rfl⟩ := Prod.mk.inj (Option.some.inj h)
        exact W.iret hx hb hr (R_end hB) hB.2.2.2.2 dX11_lessons_61
      · replace h := itn h c_7
        refine lv_aload_n hx hb dX11_lessons_44 rfl (lv_at hl 0 rfl) ?_
        replace h := b2_eq h; obtain ⟨r_8, s_9, hc_10, h⟩ := h
        refine R_call (rest := []) [.int r_8] (R_runV (n := 0) (As := []) ⟨hx, hb, hml, hown, ht⟩ (fun _ h9 => h9) hK hZ hA hB (c_X11_holdLesson l g P σ1 H.size hc_10) (R_recv hK hB (by decide) (cell_0 rfl) rfl) tw811 tw808 tw810 pw24 tw1 ⟨by decide, by decide, by decide⟩ rfl rfl ⟨Nat.le_of_ble_eq_true rfl, Nat.le_of_ble_eq_true rfl⟩ rfl hl.1 rfl (Nat.le_of_ble_eq_true rfl) dX11_lessons_45 ⟨Nat.zero_le _, Nat.zero_le _⟩) hB hA rfl (fun H locs hB => ?_)
        refine lv_if_eq (tgt := 54) hx hb dX11_lessons_48 (by decide) (fun c_11 => ?_) (fun c_11 => ?_)
        · replace h := itp h c_11
          exact hb_54 x2 x3 s_9 H locs ls h hB (lv_sub hl [0, 1, 2, 3] rfl)
        · replace h := itn h c_11
          refine lv_iinc (v := x2 + 1) (lv' := [(2, .int (x2 + 1)), (0, .ref (gL g 0)), (1, .int x1), (3, .int x3)]) hx hb dX11_lessons_51 hl (k := 2) rfl rfl (by decide) rfl (fun ls hl => ?_)
          exact hb_54 (x2 + 1) x3 s_9 H locs ls h hB (lv_sub hl [1, 2, 0, 3] rfl)
  suffices hmain : ∀ (H : Heap) (locs : List Loc) (ls : Array Slot), tB g P σ A s.heap H locs → lv_has ls 4 [(0, .ref (gL g 0)), (1, .int a1)] → WQ p l e { frames := 5, cells := 0, slots := 0, locals := 132 } s m args below meth c g P A (some (.int r)) τ H locs (F0 m 0 ls []) from hmain _ _ ls0 hB0 hl0
  intro H locs ls hB hl
  unfold f_X11_lessons at h
  refine lv_aload_n hx hb dX11_lessons_0 rfl (lv_at hl 0 rfl) ?_
  refine R_get (v := .ref (gL g 1)) hx hb ht ui_X11 hown hK hB (by decide) (cell_0 rfl) rfl 0 (by decide) (ht _ tw130) (fun _ h9 => h9) rfl dX11_lessons_1 ?_
  refine R_get (v := .int (hI σ 1 2)) hx hb ht ui_X7 hown hK hB (by decide) (cell_1 rfl) rfl 2 (by decide) (ht _ tw51) (fun _ h9 => h9) rfl dX11_lessons_4 ?_
  refine lv_if_ne (tgt := 17) hx hb dX11_lessons_7 (by decide) (fun c_1 => ?_) (fun c_1 => ?_)
  · replace h := itn h c_1
    refine lv_iload_n hx hb dX11_lessons_17 rfl (lv_at hl 1 rfl) ?_
    refine lv_iconst (v := 1) hx hb dX11_lessons_18 (by decide) ?_
    refine lv_icmp_lt (tgt := 28) hx hb dX11_lessons_19 (by decide) (fun c_2 => ?_) (fun c_2 => ?_)
    · replace h := itp h c_2
      exact hb_28 σ H locs ls h hB (lv_sub hl [0] rfl)
    · replace h := itn h c_2
      refine lv_iload_n hx hb dX11_lessons_22 rfl (lv_at hl 1 rfl) ?_
      refine lv_bipush (v := 9) hx hb dX11_lessons_23 (by decide) ?_
      refine lv_icmp_le (tgt := 35) hx hb dX11_lessons_25 (by decide) (fun c_6 => ?_) (fun c_6 => ?_)
      · replace h := itp h c_6
        refine lv_iconst (v := 0) hx hb dX11_lessons_35 (by decide) ?_
        refine lv_istore_n (lv' := [(2, .int (0 : Int32)), (0, .ref (gL g 0)), (1, .int a1)]) hx hb dX11_lessons_36 rfl hl (by decide) rfl (fun ls hl => ?_)
        refine lv_iconst (v := 0) hx hb dX11_lessons_37 (by decide) ?_
        refine lv_istore_n (lv' := [(3, .int (0 : Int32)), (2, .int (0 : Int32)), (0, .ref (gL g 0)), (1, .int a1)]) hx hb dX11_lessons_38 rfl hl (by decide) rfl (fun ls hl => ?_)
        exact hL_39 a1 fuel (0 : Int32) (0 : Int32) σ H locs ls h hB (lv_sub hl [2, 3, 1, 0] rfl)
      · replace h := itn h c_6
        exact hb_28 σ H locs ls h hB (lv_sub hl [0] rfl)
  · replace h := itp h c_1
    refine lv_aload_n hx hb dX11_lessons_10 rfl (lv_at hl 0 rfl) ?_
    refine lv_bipush (v := -5) hx hb dX11_lessons_11 (by decide) ?_
    replace h := b2_eq h; obtain ⟨r_12, s_13, hc_14, h⟩ := h
    refine R_call (rest := []) [.int r_12] (R_runV (n := 1) (As := [.int (-5 : Int32)]) ⟨hx, hb, hml, hown, ht⟩ (fun _ h9 => h9) hK hZ hA hB (c_X11_refuse l g P σ (-5 : Int32) H.size hc_14) (R_recv hK hB (by decide) (cell_0 rfl) rfl) tw178 tw175 tw177 pw1 tw1 ⟨by decide, by decide, by decide⟩ rfl rfl ⟨Nat.le_of_ble_eq_true rfl, Nat.le_of_ble_eq_true rfl⟩ rfl hl.1 rfl (Nat.le_of_ble_eq_true rfl) dX11_lessons_13 ⟨Nat.zero_le _, Nat.zero_le _⟩) hB hA rfl (fun H locs hB => ?_)
    obtain ⟨rfl, rfl⟩ := Prod.mk.inj (Option.some.inj h)
    exact W.iret hx hb hr (R_end hB) hB.2.2.2.2 dX11_lessons_16
def f_X11_seed (a1 : Int32) (σ : Hp) : Option (Int32 × Hp) := some ((hI σ 1 1), (sI σ 1 1 a1))
set_option maxHeartbeats 4000000 in
set_option maxRecDepth 100000 in
theorem c_X11_seed (l : Launch) (g : tG) (P : Nat → Nat) (σ : Hp) (a1 : Int32) (sz : Nat) {r : Int32} {τ : Hp} (h : f_X11_seed a1 σ = some (r, τ)) : Met l yX11_seed (Cond.code yX11_seed cX11_seed 3 (some .int) :: tblG) ({ frames := 0, cells := 0, slots := 0, locals := 0 }) (va_Pc [.ref (gL g 0), .int a1] (tPre g P σ sz)) (tQ (some (.int r)) (tPost g P τ (va_A (wC g P σ) sz)) (va_A (wC g P σ) sz)) 0 0 (va_A (wC g P σ) sz) := by
  refine T_start (B := fun A => tPost g P τ A) (by decide) (Nat.le_of_ble_eq_true rfl) ?_
  intro p e s m args below meth c ls0 A hx hb hml hr hown hlocks ht hnm hK hZ hA hB0 hl0
  suffices hmain : ∀ (H : Heap) (locs : List Loc) (ls : Array Slot), tB g P σ A s.heap H locs → lv_has ls 3 [(0, .ref (gL g 0)), (1, .int a1)] → WQ p l e { frames := 0, cells := 0, slots := 0, locals := 0 } s m args below meth c g P A (some (.int r)) τ H locs (F0 m 0 ls []) from hmain _ _ ls0 hB0 hl0
  intro H locs ls hB hl
  unfold f_X11_seed at h
  refine lv_aload_n hx hb dX11_seed_0 rfl (lv_at hl 0 rfl) ?_
  refine R_get (v := .ref (gL g 1)) hx hb ht ui_X11 hown hK hB (by decide) (cell_0 rfl) rfl 0 (by decide) (ht _ tw130) (fun _ h9 => h9) rfl dX11_seed_1 ?_
  refine R_get (v := .int (hI σ 1 1)) hx hb ht ui_X7 hown hK hB (by decide) (cell_1 rfl) rfl 1 (by decide) (ht _ tw48) (fun _ h9 => h9) rfl dX11_seed_4 ?_
  refine lv_istore_n (lv' := [(2, .int (hI σ 1 1)), (0, .ref (gL g 0)), (1, .int a1)]) hx hb dX11_seed_7 rfl hl (by decide) rfl (fun ls hl => ?_)
  refine lv_aload_n hx hb dX11_seed_8 rfl (lv_at hl 1 rfl) ?_
  refine R_get (v := .ref (gL g 1)) hx hb ht ui_X11 hown hK hB (by decide) (cell_0 rfl) rfl 0 (by decide) (ht _ tw130) (fun _ h9 => h9) rfl dX11_seed_9 ?_
  refine lv_iload_n hx hb dX11_seed_12 rfl (lv_at hl 2 rfl) ?_
  refine R_putI (v := a1) (ty := .int) hx hb ht ui_X7 tyX7 tyX7_ok nmX7 hown hK hB (by decide) (cell_1 rfl) rfl 1 (by decide) (ht _ tw48) (fun _ h9 => h9) rfl (by decide +kernel) rfl rfl (Nat.le_of_ble_eq_true rfl) (st1_1 rfl) dX11_seed_13 (fun H locs hB => ?_)
  refine lv_iload_n hx hb dX11_seed_16 rfl (lv_at hl 0 rfl) ?_
  obtain ⟨rfl, rfl⟩ := Prod.mk.inj (Option.some.inj h)
  exact W.iret hx hb hr (R_end hB) hB.2.2.2.2 dX11_seed_17
def f_X11_act (a1 : Int32) (a2 : Int32) (a3 : Int32) (σ : Hp) : Option (Int32 × Hp) := b2 (f_J7_fill_53178 32 (0 : Int32) σ) (fun r_1 s_2 => b2 (f_X7_lawAt 1 a1 s_2) (fun r_4 s_5 => cs r_4 (some ((0 : Int32), s_5)) (fun y_7 => if a2 = 0 then ck (isLaw s_5 y_7 = true) (b2 (v_turns y_7 a3 32 s_5) (fun r_10 s_11 => some (r_10, s_11))) else (if a2 = 1 then ck (isLaw s_5 y_7 = true) (b2 (v_adds y_7 a3 32 s_5) (fun r_15 s_16 => some (r_15, s_16))) else (if a2 = 2 then ck (isLaw s_5 y_7 = true) (b2 (v_reads y_7 a3 32 s_5) (fun r_20 s_21 => some (r_20, s_21))) else (some ((0 : Int32), s_5)))))))
set_option maxHeartbeats 4000000 in
set_option maxRecDepth 100000 in
theorem c_X11_act (l : Launch) (g : tG) (P : Nat → Nat) (σ : Hp) (a1 : Int32) (a2 : Int32) (a3 : Int32) (sz : Nat) {r : Int32} {τ : Hp} (h : f_X11_act a1 a2 a3 σ = some (r, τ)) : Met l yX11_act (Cond.code yX11_act cX11_act 5 (some .int) :: tblG) ({ frames := 7, cells := 0, slots := 0, locals := 155 }) (va_Pc [.ref (gL g 0), .int a1, .int a2, .int a3] (tPre g P σ sz)) (tQ (some (.int r)) (tPost g P τ (va_A (wC g P σ) sz)) (va_A (wC g P σ) sz)) 0 0 (va_A (wC g P σ) sz) := by
  refine T_start (B := fun A => tPost g P τ A) (by decide) (Nat.le_of_ble_eq_true rfl) ?_
  intro p e s m args below meth c ls0 A hx hb hml hr hown hlocks ht hnm hK hZ hA hB0 hl0
  suffices hmain : ∀ (H : Heap) (locs : List Loc) (ls : Array Slot), tB g P σ A s.heap H locs → lv_has ls 5 [(0, .ref (gL g 0)), (1, .int a1), (2, .int a2), (3, .int a3)] → WQ p l e { frames := 7, cells := 0, slots := 0, locals := 155 } s m args below meth c g P A (some (.int r)) τ H locs (F0 m 0 ls []) from hmain _ _ ls0 hB0 hl0
  intro H locs ls hB hl
  unfold f_X11_act at h
  refine lv_aload_n hx hb dX11_act_0 rfl (lv_at hl 0 rfl) ?_
  refine R_get (v := .ref (gL g 32)) hx hb ht ui_X11 hown hK hB (by decide) (cell_0 rfl) rfl 7 (by decide) (ht _ tw137) (fun _ h9 => h9) rfl dX11_act_1 ?_
  refine lv_iconst (v := 0) hx hb dX11_act_4 (by decide) ?_
  replace h := b2_eq h; obtain ⟨r_1, s_2, hc_3, h⟩ := h
  refine R_call (rest := []) [] (R_runS (n := 2) (As := [.ref (gL g 32), .int (0 : Int32)]) ⟨hx, hb, hml, hown, ht⟩ (fun _ h9 => h9) hK hZ hA hB (c_J7_fill_53178 l g P σ 32 (0 : Int32) rfl H.size hc_3) tw828 tw826 tw827 tw6 ⟨by decide, by decide, by decide⟩ rfl rfl ⟨Nat.le_of_ble_eq_true rfl, Nat.le_of_ble_eq_true rfl⟩ rfl hl.1 rfl (Nat.le_of_ble_eq_true rfl) dX11_act_5 ⟨Nat.zero_le _, Nat.zero_le _⟩) hB hA rfl (fun H locs hB => ?_)
  refine lv_aload_n hx hb dX11_act_8 rfl (lv_at hl 0 rfl) ?_
  refine R_get (v := .ref (gL g 1)) hx hb ht ui_X11 hown hK hB (by decide) (cell_0 rfl) rfl 0 (by decide) (ht _ tw130) (fun _ h9 => h9) rfl dX11_act_9 ?_
  refine lv_iload_n hx hb dX11_act_12 rfl (lv_at hl 1 rfl) ?_
  replace h := b2_eq h; obtain ⟨r_4, s_5, hc_6, h⟩ := h
  refine R_call (rest := []) [va_rf (Option.map P r_4)] (R_runV (n := 1) (As := [.int a1]) ⟨hx, hb, hml, hown, ht⟩ (fun _ h9 => h9) hK hZ hA hB (c_X7_lawAt l g P s_2 1 a1 rfl H.size hc_6) (R_recv hK hB (by decide) (cell_1 rfl) rfl) tw228 tw225 tw226 tw227 tw2 ⟨by decide, by decide, by decide⟩ rfl rfl ⟨Nat.le_of_ble_eq_true rfl, Nat.le_of_ble_eq_true rfl⟩ rfl hl.1 rfl (Nat.le_of_ble_eq_true rfl) dX11_act_13 ⟨Nat.zero_le _, Nat.zero_le _⟩) hB hA rfl (fun H locs hB => ?_)
  refine lv_astoreR (lv' := [(4, va_rf (Option.map P r_4)), (0, .ref (gL g 0)), (1, .int a1), (2, .int a2), (3, .int a3)]) hx hb dX11_act_16 hl (by decide) rfl (fun ls hl => ?_)
  refine lv_aloadR hx hb dX11_act_18 (lv_at hl 0 rfl) ?_
  rcases r_4 with _ | y_7
  · replace h := cs_n h
    have hl : lv_has ls 5 [(4, .null), (0, .ref (gL g 0)), (1, .int a1), (2, .int a2), (3, .int a3)] := hl
    refine lv_ifnonnullN hx hb dX11_act_20 ?_
    refine lv_iconst (v := 0) hx hb dX11_act_23 (by decide) ?_
    obtain ⟨rfl, rfl⟩ := Prod.mk.inj (Option.some.inj h)
    exact W.iret hx hb hr (R_end hB) hB.2.2.2.2 dX11_act_24
  · replace h := cs_s h
    have hl : lv_has ls 5 [(4, .ref (P y_7)), (0, .ref (gL g 0)), (1, .int a1), (2, .int a2), (3, .int a3)] := hl
    refine lv_ifnonnull (tgt := 25) hx hb dX11_act_20 (by decide) ?_
    refine lv_iload_n hx hb dX11_act_25 rfl (lv_at hl 3 rfl) ?_
    by_cases c_8 : a2 = 0
    · replace h := itp h c_8
      refine lv_tableIn (tgt := 52) hx hb dX11_act_26 (by rw [c_8]; decide) (by rw [c_8]; decide) (by rw [c_8]; rfl) (by decide) ?_
      refine lv_aload hx hb dX11_act_52 (lv_at hl 0 rfl) ?_
      refine lv_iload_n hx hb dX11_act_54 rfl (lv_at hl 4 rfl) ?_
      refine lv_aload_n hx hb dX11_act_55 rfl (lv_at hl 1 rfl) ?_
      refine R_get (v := .ref (gL g 32)) hx hb ht ui_X11 hown hK hB (by decide) (cell_0 rfl) rfl 7 (by decide) (ht _ tw137) (fun _ h9 => h9) rfl dX11_act_56 ?_
      replace h := ck_eq h; obtain ⟨q_9, h⟩ := h
      replace h := b2_eq h; obtain ⟨r_10, s_11, hc_12, h⟩ := h
      refine R_call (rest := []) [.int r_10] (dv_turns ⟨hx, hb, hml, hown, ht⟩ hK hZ hA hB q_9 rfl tw829 hc_12 (Nat.le_of_ble_eq_true rfl) (Nat.le_of_ble_eq_true rfl) hl.1 rfl (Nat.le_of_ble_eq_true rfl) dX11_act_59 (Nat.zero_le _) (Nat.zero_le _)) hB hA rfl (fun H locs hB => ?_)
      obtain ⟨rfl, rfl⟩ := Prod.mk.inj (Option.some.inj h)
      exact W.iret hx hb hr (R_end hB) hB.2.2.2.2 dX11_act_62
    · replace h := itn h c_8
      by_cases c_13 : a2 = 1
      · replace h := itp h c_13
        refine lv_tableIn (tgt := 63) hx hb dX11_act_26 (by rw [c_13]; decide) (by rw [c_13]; decide) (by rw [c_13]; rfl) (by decide) ?_
        refine lv_aload hx hb dX11_act_63 (lv_at hl 0 rfl) ?_
        refine lv_iload_n hx hb dX11_act_65 rfl (lv_at hl 4 rfl) ?_
        refine lv_aload_n hx hb dX11_act_66 rfl (lv_at hl 1 rfl) ?_
        refine R_get (v := .ref (gL g 32)) hx hb ht ui_X11 hown hK hB (by decide) (cell_0 rfl) rfl 7 (by decide) (ht _ tw137) (fun _ h9 => h9) rfl dX11_act_67 ?_
        replace h := ck_eq h; obtain ⟨q_14, h⟩ := h
        replace h := b2_eq h; obtain ⟨r_15, s_16, hc_17, h⟩ := h
        refine R_call (rest := []) [.int r_15] (dv_adds ⟨hx, hb, hml, hown, ht⟩ hK hZ hA hB q_14 rfl tw851 hc_17 (Nat.le_of_ble_eq_true rfl) (Nat.le_of_ble_eq_true rfl) hl.1 rfl (Nat.le_of_ble_eq_true rfl) dX11_act_70 (Nat.zero_le _) (Nat.zero_le _)) hB hA rfl (fun H locs hB => ?_)
        obtain ⟨rfl, rfl⟩ := Prod.mk.inj (Option.some.inj h)
        exact W.iret hx hb hr (R_end hB) hB.2.2.2.2 dX11_act_73
      · replace h := itn h c_13
        by_cases c_18 : a2 = 2
        · replace h := itp h c_18
          refine lv_tableIn (tgt := 74) hx hb dX11_act_26 (by rw [c_18]; decide) (by rw [c_18]; decide) (by rw [c_18]; rfl) (by decide) ?_
          refine lv_aload hx hb dX11_act_74 (lv_at hl 0 rfl) ?_
          refine lv_iload_n hx hb dX11_act_76 rfl (lv_at hl 4 rfl) ?_
          refine lv_aload_n hx hb dX11_act_77 rfl (lv_at hl 1 rfl) ?_
          refine R_get (v := .ref (gL g 32)) hx hb ht ui_X11 hown hK hB (by decide) (cell_0 rfl) rfl 7 (by decide) (ht _ tw137) (fun _ h9 => h9) rfl dX11_act_78 ?_
          replace h := ck_eq h; obtain ⟨q_19, h⟩ := h
          replace h := b2_eq h; obtain ⟨r_20, s_21, hc_22, h⟩ := h
          refine R_call (rest := []) [.int r_20] (dv_reads ⟨hx, hb, hml, hown, ht⟩ hK hZ hA hB q_19 rfl tw874 hc_22 (Nat.le_of_ble_eq_true rfl) (Nat.le_of_ble_eq_true rfl) hl.1 rfl (Nat.le_of_ble_eq_true rfl) dX11_act_81 (Nat.zero_le _) (Nat.zero_le _)) hB hA rfl (fun H locs hB => ?_)
          obtain ⟨rfl, rfl⟩ := Prod.mk.inj (Option.some.inj h)
          exact W.iret hx hb hr (R_end hB) hB.2.2.2.2 dX11_act_84
        · replace h := itn h c_18
          refine lv_tableOut (tgt := 85) hx hb dX11_act_26 (sw_out (lo := 0) (hi := 2) (by decide) (by decide) (fun k h1 h2 => by rcases (show k = 0 ∨ k = 1 ∨ k = 2 by omega) with rfl | rfl | rfl <;> assumption)) (by decide) ?_
          refine lv_iconst (v := 0) hx hb dX11_act_85 (by decide) ?_
          obtain ⟨rfl, rfl⟩ := Prod.mk.inj (Option.some.inj h)
          exact W.iret hx hb hr (R_end hB) hB.2.2.2.2 dX11_act_86
def f_X11_trace_b25 (x1 : Int32) (xt0 : Int32) (σ1 : Hp) : Option (Int32 × Hp) := if xt0 = 0 then some ((-1 : Int32), σ1) else ck (inb (x1 + (1 : Int32)) 21 = true) (some ((hI σ1 32 (x1 + (1 : Int32)).toNatClampNeg), σ1))
def f_X11_trace_b24 (x1 : Int32) (σ1 : Hp) : Option (Int32 × Hp) := f_X11_trace_b25 x1 (0 : Int32) σ1
def f_X11_trace (a1 : Int32) (σ : Hp) : Option (Int32 × Hp) := if a1 < 0 then f_X11_trace_b24 a1 σ else ck (inb (0 : Int32) 21 = true) (if (hI σ 32 (0 : Int32).toNatClampNeg) ≤ a1 then f_X11_trace_b24 a1 σ else if (20 : Int32) ≤ a1 then f_X11_trace_b24 a1 σ else f_X11_trace_b25 a1 (1 : Int32) σ)
set_option maxHeartbeats 4000000 in
set_option maxRecDepth 100000 in
theorem c_X11_trace (l : Launch) (g : tG) (P : Nat → Nat) (σ : Hp) (a1 : Int32) (sz : Nat) {r : Int32} {τ : Hp} (h : f_X11_trace a1 σ = some (r, τ)) : Met l yX11_trace (Cond.code yX11_trace cX11_trace 3 (some .int) :: tblG) ({ frames := 0, cells := 0, slots := 0, locals := 0 }) (va_Pc [.ref (gL g 0), .int a1] (tPre g P σ sz)) (tQ (some (.int r)) (tPost g P τ (va_A (wC g P σ) sz)) (va_A (wC g P σ) sz)) 0 0 (va_A (wC g P σ) sz) := by
  refine T_start (B := fun A => tPost g P τ A) (by decide) (Nat.le_of_ble_eq_true rfl) ?_
  intro p e s m args below meth c ls0 A hx hb hml hr hown hlocks ht hnm hK hZ hA hB0 hl0
  have hb_25 : ∀ (x1 : Int32) (xt0 : Int32) (σ1 : Hp) (H : Heap) (locs : List Loc) (ls : Array Slot), f_X11_trace_b25 x1 xt0 σ1 = some (r, τ) → tB g P σ1 A s.heap H locs → lv_has ls 3 [(0, .ref (gL g 0)), (1, .int x1)] → WQ p l e { frames := 0, cells := 0, slots := 0, locals := 0 } s m args below meth c g P A (some (.int r)) τ H locs (F0 m 25 ls [.int xt0]) := by
    intro x1 xt0 σ1 H locs ls h hB hl
    unfold f_X11_trace_b25 at h
    refine lv_istore_n (lv' := [(2, .int xt0), (0, .ref (gL g 0)), (1, .int x1)]) hx hb dX11_trace_25 rfl hl (by decide) rfl (fun ls hl => ?_)
    refine lv_iload_n hx hb dX11_trace_26 rfl (lv_at hl 0 rfl) ?_
    refine lv_if_eq (tgt := 41) hx hb dX11_trace_27 (by decide) (fun c_2 => ?_) (fun c_2 => ?_)
    · replace h := itp h c_2
      refine lv_iconst (v := -1) hx hb dX11_trace_41 (by decide) ?_
      obtain ⟨rfl, rfl⟩ := Prod.mk.inj (Option.some.inj h)
      exact W.iret hx hb hr (R_end hB) hB.2.2.2.2 dX11_trace_42
    · replace h := itn h c_2
      refine lv_aload_n hx hb dX11_trace_30 rfl (lv_at hl 1 rfl) ?_
      refine R_get (v := .ref (gL g 32)) hx hb ht ui_X11 hown hK hB (by decide) (cell_0 rfl) rfl 7 (by decide) (ht _ tw137) (fun _ h9 => h9) rfl dX11_trace_31 ?_
      refine lv_iload_n hx hb dX11_trace_34 rfl (lv_at hl 2 rfl) ?_
      refine lv_iconst (v := 1) hx hb dX11_trace_35 (by decide) ?_
      refine lv_iadd hx hb dX11_trace_36 ?_
      replace h := ck_eq h; obtain ⟨q_3, h⟩ := h
      refine R_iald hx hb hK hB rfl (inb_eq q_3) dX11_trace_37 ?_
      refine lv_goto (tgt := 42) hx hb dX11_trace_38 (by decide) ?_
      obtain ⟨rfl, rfl⟩ := Prod.mk.inj (Option.some.inj h)
      exact W.iret hx hb hr (R_end hB) hB.2.2.2.2 dX11_trace_42
  have hb_24 : ∀ (x1 : Int32) (σ1 : Hp) (H : Heap) (locs : List Loc) (ls : Array Slot), f_X11_trace_b24 x1 σ1 = some (r, τ) → tB g P σ1 A s.heap H locs → lv_has ls 3 [(0, .ref (gL g 0)), (1, .int x1)] → WQ p l e { frames := 0, cells := 0, slots := 0, locals := 0 } s m args below meth c g P A (some (.int r)) τ H locs (F0 m 24 ls []) := by
    intro x1 σ1 H locs ls h hB hl
    unfold f_X11_trace_b24 at h
    refine lv_iconst (v := 0) hx hb dX11_trace_24 (by decide) ?_
    exact hb_25 x1 (0 : Int32) σ1 H locs ls h hB (lv_sub hl [0, 1] rfl)
  suffices hmain : ∀ (H : Heap) (locs : List Loc) (ls : Array Slot), tB g P σ A s.heap H locs → lv_has ls 3 [(0, .ref (gL g 0)), (1, .int a1)] → WQ p l e { frames := 0, cells := 0, slots := 0, locals := 0 } s m args below meth c g P A (some (.int r)) τ H locs (F0 m 0 ls []) from hmain _ _ ls0 hB0 hl0
  intro H locs ls hB hl
  unfold f_X11_trace at h
  refine lv_iload_n hx hb dX11_trace_0 rfl (lv_at hl 1 rfl) ?_
  refine lv_if_lt (tgt := 24) hx hb dX11_trace_1 (by decide) (fun c_1 => ?_) (fun c_1 => ?_)
  · replace h := itp h c_1
    exact hb_24 a1 σ H locs ls h hB (lv_sub hl [0, 1] rfl)
  · replace h := itn h c_1
    refine lv_iload_n hx hb dX11_trace_4 rfl (lv_at hl 1 rfl) ?_
    refine lv_aload_n hx hb dX11_trace_5 rfl (lv_at hl 0 rfl) ?_
    refine R_get (v := .ref (gL g 32)) hx hb ht ui_X11 hown hK hB (by decide) (cell_0 rfl) rfl 7 (by decide) (ht _ tw137) (fun _ h9 => h9) rfl dX11_trace_6 ?_
    refine lv_iconst (v := 0) hx hb dX11_trace_9 (by decide) ?_
    replace h := ck_eq h; obtain ⟨q_4, h⟩ := h
    refine R_iald hx hb hK hB rfl (inb_eq q_4) dX11_trace_10 ?_
    refine lv_icmp_ge (tgt := 24) hx hb dX11_trace_11 (by decide) (fun c_5 => ?_) (fun c_5 => ?_)
    · replace h := itp h c_5
      exact hb_24 a1 σ H locs ls h hB (lv_sub hl [0, 1] rfl)
    · replace h := itn h c_5
      refine lv_iload_n hx hb dX11_trace_14 rfl (lv_at hl 1 rfl) ?_
      refine lv_bipush (v := 20) hx hb dX11_trace_15 (by decide) ?_
      refine lv_icmp_ge (tgt := 24) hx hb dX11_trace_17 (by decide) (fun c_6 => ?_) (fun c_6 => ?_)
      · replace h := itp h c_6
        exact hb_24 a1 σ H locs ls h hB (lv_sub hl [0, 1] rfl)
      · replace h := itn h c_6
        refine lv_iconst (v := 1) hx hb dX11_trace_20 (by decide) ?_
        refine lv_goto (tgt := 25) hx hb dX11_trace_21 (by decide) ?_
        exact hb_25 a1 (1 : Int32) σ H locs ls h hB (lv_sub hl [0, 1] rfl)
def f_X11_image (σ : Hp) : Option (Int32 × Hp) := b2 (f_X7_takeOver 3 1 σ) (fun r_1 s_2 => some ((hI (sI s_2 0 3 (1 : Int32)) 1 2), (sI s_2 0 3 (1 : Int32))))
set_option maxHeartbeats 4000000 in
set_option maxRecDepth 100000 in
theorem c_X11_image (l : Launch) (g : tG) (P : Nat → Nat) (σ : Hp) (sz : Nat) {r : Int32} {τ : Hp} (h : f_X11_image σ = some (r, τ)) : Met l yX11_image (Cond.code yX11_image cX11_image 1 (some .int) :: tblG) ({ frames := 1, cells := 0, slots := 0, locals := 22 }) (va_Pc [.ref (gL g 0)] (tPre g P σ sz)) (tQ (some (.int r)) (tPost g P τ (va_A (wC g P σ) sz)) (va_A (wC g P σ) sz)) 0 0 (va_A (wC g P σ) sz) := by
  refine T_start (B := fun A => tPost g P τ A) (by decide) (Nat.le_of_ble_eq_true rfl) ?_
  intro p e s m args below meth c ls0 A hx hb hml hr hown hlocks ht hnm hK hZ hA hB0 hl0
  suffices hmain : ∀ (H : Heap) (locs : List Loc) (ls : Array Slot), tB g P σ A s.heap H locs → lv_has ls 1 [(0, .ref (gL g 0))] → WQ p l e { frames := 1, cells := 0, slots := 0, locals := 22 } s m args below meth c g P A (some (.int r)) τ H locs (F0 m 0 ls []) from hmain _ _ ls0 hB0 hl0
  intro H locs ls hB hl
  unfold f_X11_image at h
  refine lv_aload_n hx hb dX11_image_0 rfl (lv_at hl 0 rfl) ?_
  refine R_get (v := .ref (gL g 3)) hx hb ht ui_X11 hown hK hB (by decide) (cell_0 rfl) rfl 1 (by decide) (ht _ tw131) (fun _ h9 => h9) rfl dX11_image_1 ?_
  refine lv_aload_n hx hb dX11_image_4 rfl (lv_at hl 0 rfl) ?_
  refine R_get (v := .ref (gL g 1)) hx hb ht ui_X11 hown hK hB (by decide) (cell_0 rfl) rfl 0 (by decide) (ht _ tw130) (fun _ h9 => h9) rfl dX11_image_5 ?_
  replace h := b2_eq h; obtain ⟨r_1, s_2, hc_3, h⟩ := h
  refine R_call (rest := []) [] (R_runV (n := 1) (As := [.ref (gL g 1)]) ⟨hx, hb, hml, hown, ht⟩ (fun _ h9 => h9) hK hZ hA hB (c_X7_takeOver l g P σ 3 1 rfl rfl H.size hc_3) (R_recv hK hB (by decide) (cell_1 rfl) rfl) tw487 tw610 tw485 tw486 tw2 ⟨by decide, by decide, by decide⟩ rfl rfl ⟨Nat.le_of_ble_eq_true rfl, Nat.le_of_ble_eq_true rfl⟩ rfl hl.1 rfl (Nat.le_of_ble_eq_true rfl) dX11_image_8 ⟨Nat.zero_le _, Nat.zero_le _⟩) hB hA rfl (fun H locs hB => ?_)
  refine lv_aload_n hx hb dX11_image_11 rfl (lv_at hl 0 rfl) ?_
  refine lv_iconst (v := 1) hx hb dX11_image_12 (by decide) ?_
  refine R_putIk (v := (1 : Int32)) (ty := .boolean) hx hb ht ui_X11 tyX11 tyX11_ok nmX11 hown hK hB (by decide) (cell_0 rfl) rfl 2 (by decide) (ht _ tw132) (fun _ h9 => h9) rfl (by decide +kernel) rfl rfl (Nat.le_of_ble_eq_true rfl) (st0_2 rfl) dX11_image_13 (fun H locs hB => ?_)
  refine lv_aload_n hx hb dX11_image_16 rfl (lv_at hl 0 rfl) ?_
  refine R_get (v := .ref (gL g 1)) hx hb ht ui_X11 hown hK hB (by decide) (cell_0 rfl) rfl 0 (by decide) (ht _ tw130) (fun _ h9 => h9) rfl dX11_image_17 ?_
  refine R_get (v := .int (hI (sI s_2 0 3 (1 : Int32)) 1 2)) hx hb ht ui_X7 hown hK hB (by decide) (cell_1 rfl) rfl 2 (by decide) (ht _ tw51) (fun _ h9 => h9) rfl dX11_image_20 ?_
  obtain ⟨rfl, rfl⟩ := Prod.mk.inj (Option.some.inj h)
  exact W.iret hx hb hr (R_end hB) hB.2.2.2.2 dX11_image_23
def f_X11_restore_b66 (x1 : Int32) (σ1 : Hp) : Option ((Int32 × Hp) ⊕ (Int32 × Hp)) := some (.inl ((x1 + 1), σ1))
def f_X11_restore_t27 (x1 : Int32) (σ1 : Hp) : Option ((Int32 × Hp) ⊕ (Int32 × Hp)) := if (8 : Int32) ≤ x1 then ex (some ((hI σ1 1 2), σ1)) else ck (inb x1 8 = true) (ck (ky (14 + x1.toNatClampNeg) = 6) (if (hI σ1 (14 + x1.toNatClampNeg) 3) < (hI σ1 1 2) then f_X11_restore_b66 x1 σ1 else b2 (f_X5_holdLaw (14 + x1.toNatClampNeg) (-1 : Int32) σ1) (fun r_9 s_10 => f_X11_restore_b66 x1 s_10)))
def f_X11_restore_s27 (v : (Int32 × Hp)) : Option ((Int32 × Hp) ⊕ (Int32 × Hp)) := f_X11_restore_t27 v.1 v.2
def f_X11_restore (σ : Hp) : Option (Int32 × Hp) := if (hI σ 0 3) = 0 then b2 (f_X11_refuse (-6 : Int32) σ) (fun r_12 s_13 => some (r_12, s_13)) else b2 (f_X7_takeOver 1 3 σ) (fun r_2 s_3 => iter (f_X11_restore_s27) fuel ((0 : Int32), s_3))
set_option maxHeartbeats 4000000 in
set_option maxRecDepth 100000 in
theorem c_X11_restore (l : Launch) (g : tG) (P : Nat → Nat) (σ : Hp) (sz : Nat) {r : Int32} {τ : Hp} (h : f_X11_restore σ = some (r, τ)) : Met l yX11_restore (Cond.code yX11_restore cX11_restore 3 (some .int) :: tblG) ({ frames := 1, cells := 0, slots := 0, locals := 22 }) (va_Pc [.ref (gL g 0)] (tPre g P σ sz)) (tQ (some (.int r)) (tPost g P τ (va_A (wC g P σ) sz)) (va_A (wC g P σ) sz)) 0 0 (va_A (wC g P σ) sz) := by
  refine T_start (B := fun A => tPost g P τ A) (by decide) (Nat.le_of_ble_eq_true rfl) ?_
  intro p e s m args below meth c ls0 A hx hb hml hr hown hlocks ht hnm hK hZ hA hB0 hl0
  have hL_27 : ∀ (n : Nat) (x1 : Int32) (σ1 : Hp) (H : Heap) (locs : List Loc) (ls : Array Slot), iter (f_X11_restore_s27) n (x1, σ1) = some (r, τ) → tB g P σ1 A s.heap H locs → lv_has ls 3 [(0, .ref (gL g 0)), (1, .int x1)] → WQ p l e { frames := 1, cells := 0, slots := 0, locals := 22 } s m args below meth c g P A (some (.int r)) τ H locs (F0 m 27 ls []) := by
    intro n
    induction n with
    | zero =>
      intro x1 σ1 H locs ls h hB hl
      exact (iter_0 h).elim
    | succ n ih1 =>
      intro x1 σ1 H locs ls h hB hl
      replace h := iter_eq h; obtain ⟨z1, hh1, hx1⟩ := h
      have hb_66 : ∀ (x1 : Int32) (σ1 : Hp) (H : Heap) (locs : List Loc) (ls : Array Slot), f_X11_restore_b66 x1 σ1 = some z1 → tB g P σ1 A s.heap H locs → lv_has ls 3 [(0, .ref (gL g 0)), (1, .int x1)] → WQ p l e { frames := 1, cells := 0, slots := 0, locals := 22 } s m args below meth c g P A (some (.int r)) τ H locs (F0 m 66 ls []) := by
        intro x1 σ1 H locs ls h hB hl
        unfold f_X11_restore_b66 at h
        refine lv_iinc (v := x1 + 1) (lv' := [(1, .int (x1 + 1)), (0, .ref (gL g 0))]) hx hb dX11_restore_66 hl (k := 1) rfl rfl (by decide) rfl (fun ls hl => ?_)
        refine lv_goto (tgt := 27) hx hb dX11_restore_69 (by decide) ?_
        obtain rfl := Option.some.inj h
        exact ih1 (x1 + 1) σ1 H locs ls hx1 hB (lv_sub hl [1, 0] rfl)
      have h : f_X11_restore_t27 x1 σ1 = some z1 := hh1
      clear hh1
      unfold f_X11_restore_t27 at h
      refine lv_iload_n hx hb dX11_restore_27 rfl (lv_at hl 1 rfl) ?_
      refine lv_aload_n hx hb dX11_restore_28 rfl (lv_at hl 0 rfl) ?_
      refine R_get (v := .ref (gL g 13)) hx hb ht ui_X11 hown hK hB (by decide) (cell_0 rfl) rfl 3 (by decide) (ht _ tw133) (fun _ h9 => h9) rfl dX11_restore_29 ?_
      refine R_alenS hx hb (v := (8 : Int32)) hK hB rfl rfl dX11_restore_32 ?_
      refine lv_icmp_ge (tgt := 72) hx hb dX11_restore_33 (by decide) (fun c_5 => ?_) (fun c_5 => ?_)
      · replace h := itp h c_5
        replace h := ex_eq h; obtain ⟨b1, h, hz1⟩ := h
        subst hz1
        have hz1 := (itk_inr hx1).symm
        subst hz1
        refine lv_aload_n hx hb dX11_restore_72 rfl (lv_at hl 0 rfl) ?_
        refine R_get (v := .ref (gL g 1)) hx hb ht ui_X11 hown hK hB (by decide) (cell_0 rfl) rfl 0 (by decide) (ht _ tw130) (fun _ h9 => h9) rfl dX11_restore_73 ?_
        refine R_get (v := .int (hI σ1 1 2)) hx hb ht ui_X7 hown hK hB (by decide) (cell_1 rfl) rfl 2 (by decide) (ht _ tw51) (fun _ h9 => h9) rfl dX11_restore_76 ?_
        obtain ⟨rfl, rfl⟩ := Prod.mk.inj (Option.some.inj h)
        exact W.iret hx hb hr (R_end hB) hB.2.2.2.2 dX11_restore_79
      · replace h := itn h c_5
        refine lv_aload_n hx hb dX11_restore_36 rfl (lv_at hl 0 rfl) ?_
        refine R_get (v := .ref (gL g 13)) hx hb ht ui_X11 hown hK hB (by decide) (cell_0 rfl) rfl 3 (by decide) (ht _ tw133) (fun _ h9 => h9) rfl dX11_restore_37 ?_
        refine lv_iload_n hx hb dX11_restore_40 rfl (lv_at hl 1 rfl) ?_
        replace h := ck_eq h; obtain ⟨q_6, h⟩ := h
        refine R_aaldS hx hb hK hB rfl (inb_eq q_6) dX11_restore_41 ?_
        replace h := ck_eq h; obtain ⟨q_7, h⟩ := h
        refine lv_astore_n (lv' := [(2, .ref (gL g (14 + x1.toNatClampNeg))), (0, .ref (gL g 0)), (1, .int x1)]) hx hb dX11_restore_42 rfl hl (by decide) rfl (fun ls hl => ?_)
        refine lv_aload_n hx hb dX11_restore_43 rfl (lv_at hl 0 rfl) ?_
        refine lv_ifnull hx hb dX11_restore_44 ?_
        refine lv_aload_n hx hb dX11_restore_47 rfl (lv_at hl 0 rfl) ?_
        refine R_get (v := .int (hI σ1 (14 + x1.toNatClampNeg) 3)) hx hb ht ui_X5 hown hK hB (ky_in _ (by rw [q_7]; decide)) (cell_6 q_7) rfl 3 (by decide) (ht _ tw91) (fun _ h9 => h9) rfl dX11_restore_48 ?_
        refine lv_aload_n hx hb dX11_restore_51 rfl (lv_at hl 1 rfl) ?_
        refine R_get (v := .ref (gL g 1)) hx hb ht ui_X11 hown hK hB (by decide) (cell_0 rfl) rfl 0 (by decide) (ht _ tw130) (fun _ h9 => h9) rfl dX11_restore_52 ?_
        refine R_get (v := .int (hI σ1 1 2)) hx hb ht ui_X7 hown hK hB (by decide) (cell_1 rfl) rfl 2 (by decide) (ht _ tw51) (fun _ h9 => h9) rfl dX11_restore_55 ?_
        refine lv_icmp_lt (tgt := 66) hx hb dX11_restore_58 (by decide) (fun c_8 => ?_) (fun c_8 => ?_)
        · replace h := itp h c_8
          exact hb_66 x1 σ1 H locs ls h hB (lv_sub hl [1, 2] rfl)
        · replace h := itn h c_8
          refine lv_aload_n hx hb dX11_restore_61 rfl (lv_at hl 0 rfl) ?_
          refine lv_iconst (v := -1) hx hb dX11_restore_62 (by decide) ?_
          replace h := b2_eq h; obtain ⟨r_9, s_10, hc_11, h⟩ := h
          refine R_call (rest := []) [] (R_runV (n := 1) (As := [.int (-1 : Int32)]) ⟨hx, hb, hml, hown, ht⟩ (fun _ h9 => h9) hK hZ hA hB (c_X5_holdLaw l g P σ1 (14 + x1.toNatClampNeg) (-1 : Int32) q_7 H.size hc_11) (R_recv hK hB (ky_in _ (by rw [q_7]; decide)) (cell_6 q_7) rfl) tw232 tw229 tw230 tw231 tw3 ⟨by decide, by decide, by decide⟩ rfl rfl ⟨Nat.le_of_ble_eq_true rfl, Nat.le_of_ble_eq_true rfl⟩ rfl hl.1 rfl (Nat.le_of_ble_eq_true rfl) dX11_restore_63 ⟨Nat.zero_le _, Nat.zero_le _⟩) hB hA rfl (fun H locs hB => ?_)
          exact hb_66 x1 s_10 H locs ls h hB (lv_sub hl [1, 2] rfl)
  suffices hmain : ∀ (H : Heap) (locs : List Loc) (ls : Array Slot), tB g P σ A s.heap H locs → lv_has ls 3 [(0, .ref (gL g 0))] → WQ p l e { frames := 1, cells := 0, slots := 0, locals := 22 } s m args below meth c g P A (some (.int r)) τ H locs (F0 m 0 ls []) from hmain _ _ ls0 hB0 hl0
  intro H locs ls hB hl
  unfold f_X11_restore at h
  refine lv_aload_n hx hb dX11_restore_0 rfl (lv_at hl 0 rfl) ?_
  refine R_get (v := .int (hI σ 0 3)) hx hb ht ui_X11 hown hK hB (by decide) (cell_0 rfl) rfl 2 (by decide) (ht _ tw132) (fun _ h9 => h9) rfl dX11_restore_1 ?_
  refine lv_if_ne (tgt := 14) hx hb dX11_restore_4 (by decide) (fun c_1 => ?_) (fun c_1 => ?_)
  · replace h := itn h c_1
    refine lv_aload_n hx hb dX11_restore_14 rfl (lv_at hl 0 rfl) ?_
    refine R_get (v := .ref (gL g 1)) hx hb ht ui_X11 hown hK hB (by decide) (cell_0 rfl) rfl 0 (by decide) (ht _ tw130) (fun _ h9 => h9) rfl dX11_restore_15 ?_
    refine lv_aload_n hx hb dX11_restore_18 rfl (lv_at hl 0 rfl) ?_
    refine R_get (v := .ref (gL g 3)) hx hb ht ui_X11 hown hK hB (by decide) (cell_0 rfl) rfl 1 (by decide) (ht _ tw131) (fun _ h9 => h9) rfl dX11_restore_19 ?_
    replace h := b2_eq h; obtain ⟨r_2, s_3, hc_4, h⟩ := h
    refine R_call (rest := []) [] (R_runV (n := 1) (As := [.ref (gL g 3)]) ⟨hx, hb, hml, hown, ht⟩ (fun _ h9 => h9) hK hZ hA hB (c_X7_takeOver l g P σ 1 3 rfl rfl H.size hc_4) (R_recv hK hB (by decide) (cell_1 rfl) rfl) tw487 tw610 tw485 tw486 tw2 ⟨by decide, by decide, by decide⟩ rfl rfl ⟨Nat.le_of_ble_eq_true rfl, Nat.le_of_ble_eq_true rfl⟩ rfl hl.1 rfl (Nat.le_of_ble_eq_true rfl) dX11_restore_22 ⟨Nat.zero_le _, Nat.zero_le _⟩) hB hA rfl (fun H locs hB => ?_)
    refine lv_iconst (v := 0) hx hb dX11_restore_25 (by decide) ?_
    refine lv_istore_n (lv' := [(1, .int (0 : Int32)), (0, .ref (gL g 0))]) hx hb dX11_restore_26 rfl hl (by decide) rfl (fun ls hl => ?_)
    exact hL_27 fuel (0 : Int32) s_3 H locs ls h hB (lv_sub hl [1, 0] rfl)
  · replace h := itp h c_1
    refine lv_aload_n hx hb dX11_restore_7 rfl (lv_at hl 0 rfl) ?_
    refine lv_bipush (v := -6) hx hb dX11_restore_8 (by decide) ?_
    replace h := b2_eq h; obtain ⟨r_12, s_13, hc_14, h⟩ := h
    refine R_call (rest := []) [.int r_12] (R_runV (n := 1) (As := [.int (-6 : Int32)]) ⟨hx, hb, hml, hown, ht⟩ (fun _ h9 => h9) hK hZ hA hB (c_X11_refuse l g P σ (-6 : Int32) H.size hc_14) (R_recv hK hB (by decide) (cell_0 rfl) rfl) tw178 tw175 tw177 pw1 tw1 ⟨by decide, by decide, by decide⟩ rfl rfl ⟨Nat.le_of_ble_eq_true rfl, Nat.le_of_ble_eq_true rfl⟩ rfl hl.1 rfl (Nat.le_of_ble_eq_true rfl) dX11_restore_10 ⟨Nat.zero_le _, Nat.zero_le _⟩) hB hA rfl (fun H locs hB => ?_)
    obtain ⟨rfl, rfl⟩ := Prod.mk.inj (Option.some.inj h)
    exact W.iret hx hb hr (R_end hB) hB.2.2.2.2 dX11_restore_13
def f_X11_status_b98 (x1 : Int32) (xt0 : Int32) (σ1 : Hp) : Option (Int32 × Hp) := if xt0 = 0 then some ((-1 : Int32), σ1) else ck (inb (x1 - (11 : Int32)) 7 = true) (some ((hI σ1 30 (x1 - (11 : Int32)).toNatClampNeg), σ1))
def f_X11_status_b97 (x1 : Int32) (σ1 : Hp) : Option (Int32 × Hp) := f_X11_status_b98 x1 (0 : Int32) σ1
def f_X11_status (a1 : Int32) (σ : Hp) : Option (Int32 × Hp) := if a1 = 0 then some ((hI σ 1 2), σ) else (if a1 = 1 then some ((hI σ 1 3), σ) else (if a1 = 2 then some ((hI σ 1 0), σ) else (if a1 = 3 then some ((hI σ 1 1), σ) else (if a1 = 4 then ck (inb (0 : Int32) 21 = true) (some ((hI σ 32 (0 : Int32).toNatClampNeg), σ)) else (if a1 ≤ (10 : Int32) then f_X11_status_b97 a1 σ else if ((10 : Int32) + (7 : Int32)) < a1 then f_X11_status_b97 a1 σ else f_X11_status_b98 a1 (1 : Int32) σ)))))
set_option maxHeartbeats 4000000 in
set_option maxRecDepth 100000 in
theorem c_X11_status (l : Launch) (g : tG) (P : Nat → Nat) (σ : Hp) (a1 : Int32) (sz : Nat) {r : Int32} {τ : Hp} (h : f_X11_status a1 σ = some (r, τ)) : Met l yX11_status (Cond.code yX11_status cX11_status 3 (some .int) :: tblG) ({ frames := 0, cells := 0, slots := 0, locals := 0 }) (va_Pc [.ref (gL g 0), .int a1] (tPre g P σ sz)) (tQ (some (.int r)) (tPost g P τ (va_A (wC g P σ) sz)) (va_A (wC g P σ) sz)) 0 0 (va_A (wC g P σ) sz) := by
  refine T_start (B := fun A => tPost g P τ A) (by decide) (Nat.le_of_ble_eq_true rfl) ?_
  intro p e s m args below meth c ls0 A hx hb hml hr hown hlocks ht hnm hK hZ hA hB0 hl0
  have hb_98 : ∀ (x1 : Int32) (xt0 : Int32) (σ1 : Hp) (H : Heap) (locs : List Loc) (ls : Array Slot), f_X11_status_b98 x1 xt0 σ1 = some (r, τ) → tB g P σ1 A s.heap H locs → lv_has ls 3 [(0, .ref (gL g 0)), (1, .int x1)] → WQ p l e { frames := 0, cells := 0, slots := 0, locals := 0 } s m args below meth c g P A (some (.int r)) τ H locs (F0 m 98 ls [.int xt0]) := by
    intro x1 xt0 σ1 H locs ls h hB hl
    unfold f_X11_status_b98 at h
    refine lv_istore_n (lv' := [(2, .int xt0), (0, .ref (gL g 0)), (1, .int x1)]) hx hb dX11_status_98 rfl hl (by decide) rfl (fun ls hl => ?_)
    refine lv_iload_n hx hb dX11_status_99 rfl (lv_at hl 0 rfl) ?_
    refine lv_if_eq (tgt := 115) hx hb dX11_status_100 (by decide) (fun c_8 => ?_) (fun c_8 => ?_)
    · replace h := itp h c_8
      refine lv_iconst (v := -1) hx hb dX11_status_115 (by decide) ?_
      obtain ⟨rfl, rfl⟩ := Prod.mk.inj (Option.some.inj h)
      exact W.iret hx hb hr (R_end hB) hB.2.2.2.2 dX11_status_116
    · replace h := itn h c_8
      refine lv_aload_n hx hb dX11_status_103 rfl (lv_at hl 1 rfl) ?_
      refine R_get (v := .ref (gL g 30)) hx hb ht ui_X11 hown hK hB (by decide) (cell_0 rfl) rfl 4 (by decide) (ht _ tw134) (fun _ h9 => h9) rfl dX11_status_104 ?_
      refine lv_iload_n hx hb dX11_status_107 rfl (lv_at hl 2 rfl) ?_
      refine lv_bipush (v := 11) hx hb dX11_status_108 (by decide) ?_
      refine lv_isub hx hb dX11_status_110 ?_
      replace h := ck_eq h; obtain ⟨q_9, h⟩ := h
      refine R_iald hx hb hK hB rfl (inb_eq q_9) dX11_status_111 ?_
      refine lv_goto (tgt := 116) hx hb dX11_status_112 (by decide) ?_
      obtain ⟨rfl, rfl⟩ := Prod.mk.inj (Option.some.inj h)
      exact W.iret hx hb hr (R_end hB) hB.2.2.2.2 dX11_status_116
  have hb_97 : ∀ (x1 : Int32) (σ1 : Hp) (H : Heap) (locs : List Loc) (ls : Array Slot), f_X11_status_b97 x1 σ1 = some (r, τ) → tB g P σ1 A s.heap H locs → lv_has ls 3 [(0, .ref (gL g 0)), (1, .int x1)] → WQ p l e { frames := 0, cells := 0, slots := 0, locals := 0 } s m args below meth c g P A (some (.int r)) τ H locs (F0 m 97 ls []) := by
    intro x1 σ1 H locs ls h hB hl
    unfold f_X11_status_b97 at h
    refine lv_iconst (v := 0) hx hb dX11_status_97 (by decide) ?_
    exact hb_98 x1 (0 : Int32) σ1 H locs ls h hB (lv_sub hl [0, 1] rfl)
  suffices hmain : ∀ (H : Heap) (locs : List Loc) (ls : Array Slot), tB g P σ A s.heap H locs → lv_has ls 3 [(0, .ref (gL g 0)), (1, .int a1)] → WQ p l e { frames := 0, cells := 0, slots := 0, locals := 0 } s m args below meth c g P A (some (.int r)) τ H locs (F0 m 0 ls []) from hmain _ _ ls0 hB0 hl0
  intro H locs ls hB hl
  unfold f_X11_status at h
  refine lv_iload_n hx hb dX11_status_0 rfl (lv_at hl 1 rfl) ?_
  by_cases c_1 : a1 = 0
  · replace h := itp h c_1
    refine lv_tableIn (tgt := 36) hx hb dX11_status_1 (by rw [c_1]; decide) (by rw [c_1]; decide) (by rw [c_1]; rfl) (by decide) ?_
    refine lv_aload_n hx hb dX11_status_36 rfl (lv_at hl 0 rfl) ?_
    refine R_get (v := .ref (gL g 1)) hx hb ht ui_X11 hown hK hB (by decide) (cell_0 rfl) rfl 0 (by decide) (ht _ tw130) (fun _ h9 => h9) rfl dX11_status_37 ?_
    refine R_get (v := .int (hI σ 1 2)) hx hb ht ui_X7 hown hK hB (by decide) (cell_1 rfl) rfl 2 (by decide) (ht _ tw51) (fun _ h9 => h9) rfl dX11_status_40 ?_
    obtain ⟨rfl, rfl⟩ := Prod.mk.inj (Option.some.inj h)
    exact W.iret hx hb hr (R_end hB) hB.2.2.2.2 dX11_status_43
  · replace h := itn h c_1
    by_cases c_2 : a1 = 1
    · replace h := itp h c_2
      refine lv_tableIn (tgt := 44) hx hb dX11_status_1 (by rw [c_2]; decide) (by rw [c_2]; decide) (by rw [c_2]; rfl) (by decide) ?_
      refine lv_aload_n hx hb dX11_status_44 rfl (lv_at hl 0 rfl) ?_
      refine R_get (v := .ref (gL g 1)) hx hb ht ui_X11 hown hK hB (by decide) (cell_0 rfl) rfl 0 (by decide) (ht _ tw130) (fun _ h9 => h9) rfl dX11_status_45 ?_
      refine R_get (v := .int (hI σ 1 3)) hx hb ht ui_X7 hown hK hB (by decide) (cell_1 rfl) rfl 3 (by decide) (ht _ tw54) (fun _ h9 => h9) rfl dX11_status_48 ?_
      obtain ⟨rfl, rfl⟩ := Prod.mk.inj (Option.some.inj h)
      exact W.iret hx hb hr (R_end hB) hB.2.2.2.2 dX11_status_51
    · replace h := itn h c_2
      by_cases c_3 : a1 = 2
      · replace h := itp h c_3
        refine lv_tableIn (tgt := 52) hx hb dX11_status_1 (by rw [c_3]; decide) (by rw [c_3]; decide) (by rw [c_3]; rfl) (by decide) ?_
        refine lv_aload_n hx hb dX11_status_52 rfl (lv_at hl 0 rfl) ?_
        refine R_get (v := .ref (gL g 1)) hx hb ht ui_X11 hown hK hB (by decide) (cell_0 rfl) rfl 0 (by decide) (ht _ tw130) (fun _ h9 => h9) rfl dX11_status_53 ?_
        refine R_get (v := .int (hI σ 1 0)) hx hb ht ui_X7 hown hK hB (by decide) (cell_1 rfl) rfl 0 (by decide) (ht _ tw46) (fun _ h9 => h9) rfl dX11_status_56 ?_
        obtain ⟨rfl, rfl⟩ := Prod.mk.inj (Option.some.inj h)
        exact W.iret hx hb hr (R_end hB) hB.2.2.2.2 dX11_status_59
      · replace h := itn h c_3
        by_cases c_4 : a1 = 3
        · replace h := itp h c_4
          refine lv_tableIn (tgt := 60) hx hb dX11_status_1 (by rw [c_4]; decide) (by rw [c_4]; decide) (by rw [c_4]; rfl) (by decide) ?_
          refine lv_aload_n hx hb dX11_status_60 rfl (lv_at hl 0 rfl) ?_
          refine R_get (v := .ref (gL g 1)) hx hb ht ui_X11 hown hK hB (by decide) (cell_0 rfl) rfl 0 (by decide) (ht _ tw130) (fun _ h9 => h9) rfl dX11_status_61 ?_
          refine R_get (v := .int (hI σ 1 1)) hx hb ht ui_X7 hown hK hB (by decide) (cell_1 rfl) rfl 1 (by decide) (ht _ tw48) (fun _ h9 => h9) rfl dX11_status_64 ?_
          obtain ⟨rfl, rfl⟩ := Prod.mk.inj (Option.some.inj h)
          exact W.iret hx hb hr (R_end hB) hB.2.2.2.2 dX11_status_67
        · replace h := itn h c_4
          by_cases c_5 : a1 = 4
          · replace h := itp h c_5
            refine lv_tableIn (tgt := 68) hx hb dX11_status_1 (by rw [c_5]; decide) (by rw [c_5]; decide) (by rw [c_5]; rfl) (by decide) ?_
            refine lv_aload_n hx hb dX11_status_68 rfl (lv_at hl 0 rfl) ?_
            refine R_get (v := .ref (gL g 32)) hx hb ht ui_X11 hown hK hB (by decide) (cell_0 rfl) rfl 7 (by decide) (ht _ tw137) (fun _ h9 => h9) rfl dX11_status_69 ?_
            refine lv_iconst (v := 0) hx hb dX11_status_72 (by decide) ?_
            replace h := ck_eq h; obtain ⟨q_6, h⟩ := h
            refine R_iald hx hb hK hB rfl (inb_eq q_6) dX11_status_73 ?_
            obtain ⟨rfl, rfl⟩ := Prod.mk.inj (Option.some.inj h)
            exact W.iret hx hb hr (R_end hB) hB.2.2.2.2 dX11_status_74
          · replace h := itn h c_5
            refine lv_tableOut (tgt := 75) hx hb dX11_status_1 (sw_out (lo := 0) (hi := 4) (by decide) (by decide) (fun k h1 h2 => by rcases (show k = 0 ∨ k = 1 ∨ k = 2 ∨ k = 3 ∨ k = 4 by omega) with rfl | rfl | rfl | rfl | rfl <;> assumption)) (by decide) ?_
            refine lv_iload_n hx hb dX11_status_75 rfl (lv_at hl 1 rfl) ?_
            refine lv_bipush (v := 10) hx hb dX11_status_76 (by decide) ?_
            refine lv_icmp_le (tgt := 97) hx hb dX11_status_78 (by decide) (fun c_7 => ?_) (fun c_7 => ?_)
            · replace h := itp h c_7
              exact hb_97 a1 σ H locs ls h hB (lv_sub hl [0, 1] rfl)
            · replace h := itn h c_7
              refine lv_iload_n hx hb dX11_status_81 rfl (lv_at hl 1 rfl) ?_
              refine lv_bipush (v := 10) hx hb dX11_status_82 (by decide) ?_
              refine lv_aload_n hx hb dX11_status_84 rfl (lv_at hl 0 rfl) ?_
              refine R_get (v := .ref (gL g 30)) hx hb ht ui_X11 hown hK hB (by decide) (cell_0 rfl) rfl 4 (by decide) (ht _ tw134) (fun _ h9 => h9) rfl dX11_status_85 ?_
              refine R_alenI hx hb (v := (7 : Int32)) hK hB rfl rfl dX11_status_88 ?_
              refine lv_iadd hx hb dX11_status_89 ?_
              refine lv_icmp_gt (tgt := 97) hx hb dX11_status_90 (by decide) (fun c_10 => ?_) (fun c_10 => ?_)
              · replace h := itp h c_10
                exact hb_97 a1 σ H locs ls h hB (lv_sub hl [0, 1] rfl)
              · replace h := itn h c_10
                refine lv_iconst (v := 1) hx hb dX11_status_93 (by decide) ?_
                refine lv_goto (tgt := 98) hx hb dX11_status_94 (by decide) ?_
                exact hb_98 a1 (1 : Int32) σ H locs ls h hB (lv_sub hl [0, 1] rfl)
