def f_X7_lawsFull (k0 : Nat) (σ : Hp) : Option (Int32 × Hp) := if (hI σ k0 2) < (6 : Int32) then some ((0 : Int32), σ) else some ((1 : Int32), σ)
set_option maxHeartbeats 4000000 in
set_option maxRecDepth 100000 in
theorem c_X7_lawsFull (l : Launch) (g : tG) (P : Nat → Nat) (σ : Hp) (k0 : Nat) (hk_k0 : ky k0 = 1) (sz : Nat) {r : Int32} {τ : Hp} (h : f_X7_lawsFull k0 σ = some (r, τ)) : Met l yX7_lawsFull (Cond.code yX7_lawsFull cX7_lawsFull 1 (some .boolean) :: tblG) ({ frames := 0, cells := 0, slots := 0, locals := 0 }) (va_Pc [.ref (gL g k0)] (tPre g P σ sz)) (tQ (some (.int r)) (tPost g P τ (va_A (wC g P σ) sz)) (va_A (wC g P σ) sz)) 0 0 (va_A (wC g P σ) sz) := by
  refine T_start (B := fun A => tPost g P τ A) (by decide) (Nat.le_of_ble_eq_true rfl) ?_
  intro p e s m args below meth c ls0 A hx hb hml hr hown hlocks ht hnm hK hZ hA hB0 hl0
  suffices hmain : ∀ (H : Heap) (locs : List Loc) (ls : Array Slot), tB g P σ A s.heap H locs → lv_has ls 1 [(0, .ref (gL g k0))] → WQ p l e { frames := 0, cells := 0, slots := 0, locals := 0 } s m args below meth c g P A (some (.int r)) τ H locs (F0 m 0 ls []) from hmain _ _ ls0 hB0 hl0
  intro H locs ls hB hl
  unfold f_X7_lawsFull at h
  refine lv_aload_n hx hb dX7_lawsFull_0 rfl (lv_at hl 0 rfl) ?_
  refine R_get (v := .int (hI σ k0 2)) hx hb ht ui_X7 hown hK hB (ky_in _ (by rw [hk_k0]; decide)) (cell_1 hk_k0) rfl 2 (by decide) (ht _ tw49) (fun _ h9 => h9) rfl dX7_lawsFull_1 ?_
  refine lv_aload_n hx hb dX7_lawsFull_4 rfl (lv_at hl 0 rfl) ?_
  refine R_get (v := .ref (gL g (k0 + 3))) hx hb ht ui_X7 hown hK hB (ky_in _ (by rw [hk_k0]; decide)) (cell_1 hk_k0) rfl 4 (by decide) (ht _ tw55) (fun _ h9 => h9) rfl dX7_lawsFull_5 ?_
  refine R_alenR hx hb (v := (6 : Int32)) hK hB (ky_s3 hk_k0) (by rw [(ln_s3 hk_k0)]; rfl) dX7_lawsFull_8 ?_
  refine lv_icmp_lt (tgt := 16) hx hb dX7_lawsFull_9 (by decide) (fun c_1 => ?_) (fun c_1 => ?_)
  · replace h := itp h c_1
    refine lv_iconst (v := 0) hx hb dX7_lawsFull_16 (by decide) ?_
    obtain ⟨rfl, rfl⟩ := Prod.mk.inj (Option.some.inj h)
    exact W.zret hx hb hr rfl (R_end hB) hB.2.2.2.2 dX7_lawsFull_17
  · replace h := itn h c_1
    refine lv_iconst (v := 1) hx hb dX7_lawsFull_12 (by decide) ?_
    refine lv_goto (tgt := 17) hx hb dX7_lawsFull_13 (by decide) ?_
    obtain ⟨rfl, rfl⟩ := Prod.mk.inj (Option.some.inj h)
    exact W.zret hx hb hr rfl (R_end hB) hB.2.2.2.2 dX7_lawsFull_17
def f_X7_valueOf (k0 : Nat) (a1 : Int32) (a2 : Int32) (σ : Hp) : Option (Int32 × Hp) := if ((a1 * (10 : Int32)) + a2) < 0 then some ((0 : Int32), σ) else if (60 : Int32) ≤ ((a1 * (10 : Int32)) + a2) then some ((0 : Int32), σ) else ck (inb ((a1 * (10 : Int32)) + a2) 60 = true) (some ((hI σ (k0 + 6) ((a1 * (10 : Int32)) + a2).toNatClampNeg), σ))
set_option maxHeartbeats 4000000 in
set_option maxRecDepth 100000 in
theorem c_X7_valueOf (l : Launch) (g : tG) (P : Nat → Nat) (σ : Hp) (k0 : Nat) (a1 : Int32) (a2 : Int32) (hk_k0 : ky k0 = 1) (sz : Nat) {r : Int32} {τ : Hp} (h : f_X7_valueOf k0 a1 a2 σ = some (r, τ)) : Met l yX7_valueOf (Cond.code yX7_valueOf cX7_valueOf 4 (some .int) :: tblG) ({ frames := 0, cells := 0, slots := 0, locals := 0 }) (va_Pc [.ref (gL g k0), .int a1, .int a2] (tPre g P σ sz)) (tQ (some (.int r)) (tPost g P τ (va_A (wC g P σ) sz)) (va_A (wC g P σ) sz)) 0 0 (va_A (wC g P σ) sz) := by
  refine T_start (B := fun A => tPost g P τ A) (by decide) (Nat.le_of_ble_eq_true rfl) ?_
  intro p e s m args below meth c ls0 A hx hb hml hr hown hlocks ht hnm hK hZ hA hB0 hl0
  suffices hmain : ∀ (H : Heap) (locs : List Loc) (ls : Array Slot), tB g P σ A s.heap H locs → lv_has ls 4 [(0, .ref (gL g k0)), (1, .int a1), (2, .int a2)] → WQ p l e { frames := 0, cells := 0, slots := 0, locals := 0 } s m args below meth c g P A (some (.int r)) τ H locs (F0 m 0 ls []) from hmain _ _ ls0 hB0 hl0
  intro H locs ls hB hl
  unfold f_X7_valueOf at h
  refine lv_iload_n hx hb dX7_valueOf_0 rfl (lv_at hl 1 rfl) ?_
  refine lv_bipush (v := 10) hx hb dX7_valueOf_1 (by decide) ?_
  refine lv_imul hx hb dX7_valueOf_3 ?_
  refine lv_iload_n hx hb dX7_valueOf_4 rfl (lv_at hl 2 rfl) ?_
  refine lv_iadd hx hb dX7_valueOf_5 ?_
  refine lv_istore_n (lv' := [(3, .int ((a1 * (10 : Int32)) + a2)), (0, .ref (gL g k0)), (1, .int a1), (2, .int a2)]) hx hb dX7_valueOf_6 rfl hl (by decide) rfl (fun ls hl => ?_)
  refine lv_iload_n hx hb dX7_valueOf_7 rfl (lv_at hl 0 rfl) ?_
  refine lv_if_lt (tgt := 29) hx hb dX7_valueOf_8 (by decide) (fun c_1 => ?_) (fun c_1 => ?_)
  · replace h := itp h c_1
    refine lv_iconst (v := 0) hx hb dX7_valueOf_29 (by decide) ?_
    obtain ⟨rfl, rfl⟩ := Prod.mk.inj (Option.some.inj h)
    exact W.iret hx hb hr (R_end hB) hB.2.2.2.2 dX7_valueOf_30
  · replace h := itn h c_1
    refine lv_iload_n hx hb dX7_valueOf_11 rfl (lv_at hl 0 rfl) ?_
    refine lv_aload_n hx hb dX7_valueOf_12 rfl (lv_at hl 1 rfl) ?_
    refine R_get (v := .ref (gL g (k0 + 6))) hx hb ht ui_X7 hown hK hB (ky_in _ (by rw [hk_k0]; decide)) (cell_1 hk_k0) rfl 5 (by decide) (ht _ tw56) (fun _ h9 => h9) rfl dX7_valueOf_13 ?_
    refine R_alenI hx hb (v := (60 : Int32)) hK hB (ky_s6 hk_k0) (by rw [(ln_s6 hk_k0)]; rfl) dX7_valueOf_16 ?_
    refine lv_icmp_ge (tgt := 29) hx hb dX7_valueOf_17 (by decide) (fun c_2 => ?_) (fun c_2 => ?_)
    · replace h := itp h c_2
      refine lv_iconst (v := 0) hx hb dX7_valueOf_29 (by decide) ?_
      obtain ⟨rfl, rfl⟩ := Prod.mk.inj (Option.some.inj h)
      exact W.iret hx hb hr (R_end hB) hB.2.2.2.2 dX7_valueOf_30
    · replace h := itn h c_2
      refine lv_aload_n hx hb dX7_valueOf_20 rfl (lv_at hl 1 rfl) ?_
      refine R_get (v := .ref (gL g (k0 + 6))) hx hb ht ui_X7 hown hK hB (ky_in _ (by rw [hk_k0]; decide)) (cell_1 hk_k0) rfl 5 (by decide) (ht _ tw56) (fun _ h9 => h9) rfl dX7_valueOf_21 ?_
      refine lv_iload_n hx hb dX7_valueOf_24 rfl (lv_at hl 0 rfl) ?_
      replace h := ck_eq h; obtain ⟨q_3, h⟩ := h
      refine R_iald hx hb hK hB (ky_s6 hk_k0) (by rw [(ln_s6 hk_k0)]; exact inb_eq q_3) dX7_valueOf_25 ?_
      refine lv_goto (tgt := 30) hx hb dX7_valueOf_26 (by decide) ?_
      obtain ⟨rfl, rfl⟩ := Prod.mk.inj (Option.some.inj h)
      exact W.iret hx hb hr (R_end hB) hB.2.2.2.2 dX7_valueOf_30
def f_X7_tellValue (k0 : Nat) (a1 : Int32) (a2 : Int32) (a3 : Int32) (σ : Hp) : Option (Unit × Hp) := if ((a1 * (10 : Int32)) + a2) < 0 then some ((), σ) else if (60 : Int32) ≤ ((a1 * (10 : Int32)) + a2) then some ((), σ) else ck (inb ((a1 * (10 : Int32)) + a2) 60 = true) (some ((), (sI σ (k0 + 6) ((a1 * (10 : Int32)) + a2).toNatClampNeg a3)))
set_option maxHeartbeats 4000000 in
set_option maxRecDepth 100000 in
theorem c_X7_tellValue (l : Launch) (g : tG) (P : Nat → Nat) (σ : Hp) (k0 : Nat) (a1 : Int32) (a2 : Int32) (a3 : Int32) (hk_k0 : ky k0 = 1) (sz : Nat) {r : Unit} {τ : Hp} (h : f_X7_tellValue k0 a1 a2 a3 σ = some (r, τ)) : Met l yX7_tellValue (Cond.code yX7_tellValue cX7_tellValue 5 none :: tblG) ({ frames := 0, cells := 0, slots := 0, locals := 0 }) (va_Pc [.ref (gL g k0), .int a1, .int a2, .int a3] (tPre g P σ sz)) (tQ none (tPost g P τ (va_A (wC g P σ) sz)) (va_A (wC g P σ) sz)) 0 0 (va_A (wC g P σ) sz) := by
  refine T_start (B := fun A => tPost g P τ A) (by decide) (Nat.le_of_ble_eq_true rfl) ?_
  intro p e s m args below meth c ls0 A hx hb hml hr hown hlocks ht hnm hK hZ hA hB0 hl0
  suffices hmain : ∀ (H : Heap) (locs : List Loc) (ls : Array Slot), tB g P σ A s.heap H locs → lv_has ls 5 [(0, .ref (gL g k0)), (1, .int a1), (2, .int a2), (3, .int a3)] → WQ p l e { frames := 0, cells := 0, slots := 0, locals := 0 } s m args below meth c g P A none τ H locs (F0 m 0 ls []) from hmain _ _ ls0 hB0 hl0
  intro H locs ls hB hl
  unfold f_X7_tellValue at h
  refine lv_iload_n hx hb dX7_tellValue_0 rfl (lv_at hl 1 rfl) ?_
  refine lv_bipush (v := 10) hx hb dX7_tellValue_1 (by decide) ?_
  refine lv_imul hx hb dX7_tellValue_3 ?_
  refine lv_iload_n hx hb dX7_tellValue_4 rfl (lv_at hl 2 rfl) ?_
  refine lv_iadd hx hb dX7_tellValue_5 ?_
  refine lv_istore (lv' := [(4, .int ((a1 * (10 : Int32)) + a2)), (0, .ref (gL g k0)), (1, .int a1), (2, .int a2), (3, .int a3)]) hx hb dX7_tellValue_6 hl (by decide) rfl (fun ls hl => ?_)
  refine lv_iload hx hb dX7_tellValue_8 (lv_at hl 0 rfl) ?_
  refine lv_if_lt (tgt := 31) hx hb dX7_tellValue_10 (by decide) (fun c_1 => ?_) (fun c_1 => ?_)
  · replace h := itp h c_1
    obtain ⟨rfl, rfl⟩ := Prod.mk.inj (Option.some.inj h)
    exact W.vret hx hb hr (R_end hB) hB.2.2.2.2 dX7_tellValue_31
  · replace h := itn h c_1
    refine lv_iload hx hb dX7_tellValue_13 (lv_at hl 0 rfl) ?_
    refine lv_aload_n hx hb dX7_tellValue_15 rfl (lv_at hl 1 rfl) ?_
    refine R_get (v := .ref (gL g (k0 + 6))) hx hb ht ui_X7 hown hK hB (ky_in _ (by rw [hk_k0]; decide)) (cell_1 hk_k0) rfl 5 (by decide) (ht _ tw56) (fun _ h9 => h9) rfl dX7_tellValue_16 ?_
    refine R_alenI hx hb (v := (60 : Int32)) hK hB (ky_s6 hk_k0) (by rw [(ln_s6 hk_k0)]; rfl) dX7_tellValue_19 ?_
    refine lv_icmp_ge (tgt := 31) hx hb dX7_tellValue_20 (by decide) (fun c_2 => ?_) (fun c_2 => ?_)
    · replace h := itp h c_2
      obtain ⟨rfl, rfl⟩ := Prod.mk.inj (Option.some.inj h)
      exact W.vret hx hb hr (R_end hB) hB.2.2.2.2 dX7_tellValue_31
    · replace h := itn h c_2
      refine lv_aload_n hx hb dX7_tellValue_23 rfl (lv_at hl 1 rfl) ?_
      refine R_get (v := .ref (gL g (k0 + 6))) hx hb ht ui_X7 hown hK hB (ky_in _ (by rw [hk_k0]; decide)) (cell_1 hk_k0) rfl 5 (by decide) (ht _ tw56) (fun _ h9 => h9) rfl dX7_tellValue_24 ?_
      refine lv_iload hx hb dX7_tellValue_27 (lv_at hl 0 rfl) ?_
      refine lv_iload_n hx hb dX7_tellValue_29 rfl (lv_at hl 4 rfl) ?_
      replace h := ck_eq h; obtain ⟨q_3, h⟩ := h
      refine R_iast hx hb hK hB (ky_s6 hk_k0) (by rw [(ln_s6 hk_k0)]; exact inb_eq q_3) dX7_tellValue_30 (fun H locs hB => ?_)
      obtain ⟨rfl, rfl⟩ := Prod.mk.inj (Option.some.inj h)
      exact W.vret hx hb hr (R_end hB) hB.2.2.2.2 dX7_tellValue_31
def f_X7_dearestFigure_b29 (x0 : Nat) (x1 : Int32) (x2 : Int32) (x3 : Int32) (σ1 : Hp) : Option ((Int32 × Int32 × Hp) ⊕ (Int32 × Hp)) := some (.inl (x2, (x3 + 1), σ1))
def f_X7_dearestFigure_t4 (x0 : Nat) (x1 : Int32) (x2 : Int32) (x3 : Int32) (σ1 : Hp) : Option ((Int32 × Int32 × Hp) ⊕ (Int32 × Hp)) := if (hI σ1 x0 0) ≤ x3 then ex (some (x2, σ1)) else b2 (f_X7_valueOf x0 x1 x3 σ1) (fun r_2 s_3 => b2 (f_X7_valueOf x0 x1 x2 s_3) (fun r_5 s_6 => if r_2 ≤ r_5 then f_X7_dearestFigure_b29 x0 x1 x2 x3 s_6 else f_X7_dearestFigure_b29 x0 x1 x3 x3 s_6))
def f_X7_dearestFigure_s4 (x0 : Nat) (x1 : Int32) (v : (Int32 × Int32 × Hp)) : Option ((Int32 × Int32 × Hp) ⊕ (Int32 × Hp)) := f_X7_dearestFigure_t4 x0 x1 v.1 v.2.1 v.2.2
def f_X7_dearestFigure (k0 : Nat) (a1 : Int32) (σ : Hp) : Option (Int32 × Hp) := iter (f_X7_dearestFigure_s4 k0 a1) fuel ((0 : Int32), (1 : Int32), σ)
set_option maxHeartbeats 4000000 in
set_option maxRecDepth 100000 in
theorem c_X7_dearestFigure (l : Launch) (g : tG) (P : Nat → Nat) (σ : Hp) (k0 : Nat) (a1 : Int32) (hk_k0 : ky k0 = 1) (sz : Nat) {r : Int32} {τ : Hp} (h : f_X7_dearestFigure k0 a1 σ = some (r, τ)) : Met l yX7_dearestFigure (Cond.code yX7_dearestFigure cX7_dearestFigure 4 (some .int) :: tblG) ({ frames := 1, cells := 0, slots := 0, locals := 23 }) (va_Pc [.ref (gL g k0), .int a1] (tPre g P σ sz)) (tQ (some (.int r)) (tPost g P τ (va_A (wC g P σ) sz)) (va_A (wC g P σ) sz)) 0 0 (va_A (wC g P σ) sz) := by
  refine T_start (B := fun A => tPost g P τ A) (by decide) (Nat.le_of_ble_eq_true rfl) ?_
  intro p e s m args below meth c ls0 A hx hb hml hr hown hlocks ht hnm hK hZ hA hB0 hl0
  have hL_4 : ∀ (x0 : Nat) (x1 : Int32) (hk_x0 : ky x0 = 1) (n : Nat) (x2 : Int32) (x3 : Int32) (σ1 : Hp) (H : Heap) (locs : List Loc) (ls : Array Slot), iter (f_X7_dearestFigure_s4 x0 x1) n (x2, x3, σ1) = some (r, τ) → tB g P σ1 A s.heap H locs → lv_has ls 4 [(0, .ref (gL g x0)), (1, .int x1), (2, .int x2), (3, .int x3)] → WQ p l e { frames := 1, cells := 0, slots := 0, locals := 23 } s m args below meth c g P A (some (.int r)) τ H locs (F0 m 4 ls []) := by
    intro x0 x1 hk_x0 n
    induction n with
    | zero =>
      intro x2 x3 σ1 H locs ls h hB hl
      exact (iter_0 h).elim
    | succ n ih1 =>
      intro x2 x3 σ1 H locs ls h hB hl
      replace h := iter_eq h; obtain ⟨z1, hh1, hx1⟩ := h
      have hb_29 : ∀ (x2 : Int32) (x3 : Int32) (σ1 : Hp) (H : Heap) (locs : List Loc) (ls : Array Slot), f_X7_dearestFigure_b29 x0 x1 x2 x3 σ1 = some z1 → tB g P σ1 A s.heap H locs → lv_has ls 4 [(0, .ref (gL g x0)), (1, .int x1), (2, .int x2), (3, .int x3)] → WQ p l e { frames := 1, cells := 0, slots := 0, locals := 23 } s m args below meth c g P A (some (.int r)) τ H locs (F0 m 29 ls []) := by
        intro x2 x3 σ1 H locs ls h hB hl
        unfold f_X7_dearestFigure_b29 at h
        refine lv_iinc (v := x3 + 1) (lv' := [(3, .int (x3 + 1)), (0, .ref (gL g x0)), (1, .int x1), (2, .int x2)]) hx hb dX7_dearestFigure_29 hl (k := 3) rfl rfl (by decide) rfl (fun ls hl => ?_)
        refine lv_goto (tgt := 4) hx hb dX7_dearestFigure_32 (by decide) ?_
        obtain rfl := Option.some.inj h
        exact ih1 x2 (x3 + 1) σ1 H locs ls hx1 hB (lv_sub hl [1, 2, 3, 0] rfl)
      have h : f_X7_dearestFigure_t4 x0 x1 x2 x3 σ1 = some z1 := hh1
      clear hh1
      unfold f_X7_dearestFigure_t4 at h
      refine lv_iload_n hx hb dX7_dearestFigure_4 rfl (lv_at hl 3 rfl) ?_
      refine lv_aload_n hx hb dX7_dearestFigure_5 rfl (lv_at hl 0 rfl) ?_
      refine R_get (v := .int (hI σ1 x0 0)) hx hb ht ui_X7 hown hK hB (ky_in _ (by rw [hk_x0]; decide)) (cell_1 hk_x0) rfl 0 (by decide) (ht _ tw37) (fun _ h9 => h9) rfl dX7_dearestFigure_6 ?_
      refine lv_icmp_ge (tgt := 35) hx hb dX7_dearestFigure_9 (by decide) (fun c_1 => ?_) (fun c_1 => ?_)
      · replace h := itp h c_1
        replace h := ex_eq h; obtain ⟨b1, h, hz1⟩ := h
        subst hz1
        have hz1 := (itk_inr hx1).symm
        subst hz1
        refine lv_iload_n hx hb dX7_dearestFigure_35 rfl (lv_at hl 2 rfl) ?_
        obtain ⟨rfl, rfl⟩ := Prod.mk.inj (Option.some.inj h)
        exact W.iret hx hb hr (R_end hB) hB.2.2.2.2 dX7_dearestFigure_36
      · replace h := itn h c_1
        refine lv_aload_n hx hb dX7_dearestFigure_12 rfl (lv_at hl 0 rfl) ?_
        refine lv_iload_n hx hb dX7_dearestFigure_13 rfl (lv_at hl 1 rfl) ?_
        refine lv_iload_n hx hb dX7_dearestFigure_14 rfl (lv_at hl 3 rfl) ?_
        replace h := b2_eq h; obtain ⟨r_2, s_3, hc_4, h⟩ := h
        refine R_call (rest := []) [.int r_2] (R_runV (n := 2) (As := [.int x1, .int x3]) ⟨hx, hb, hml, hown, ht⟩ (fun _ h9 => h9) hK hZ hA hB (c_X7_valueOf l g P σ1 x0 x1 x3 hk_x0 H.size hc_4) (R_recv hK hB (ky_in _ (by rw [hk_x0]; decide)) (cell_1 hk_x0) rfl) tw335 tw347 tw333 tw334 tw2 ⟨by decide, by decide, by decide⟩ rfl rfl ⟨Nat.le_of_ble_eq_true rfl, Nat.le_of_ble_eq_true rfl⟩ rfl hl.1 rfl (Nat.le_of_ble_eq_true rfl) dX7_dearestFigure_15 ⟨Nat.zero_le _, Nat.zero_le _⟩) hB hA rfl (fun H locs hB => ?_)
        refine lv_aload_n hx hb dX7_dearestFigure_18 rfl (lv_at hl 0 rfl) ?_
        refine lv_iload_n hx hb dX7_dearestFigure_19 rfl (lv_at hl 1 rfl) ?_
        refine lv_iload_n hx hb dX7_dearestFigure_20 rfl (lv_at hl 2 rfl) ?_
        replace h := b2_eq h; obtain ⟨r_5, s_6, hc_7, h⟩ := h
        refine R_call (rest := [.int r_2]) [.int r_5, .int r_2] (R_runV (n := 2) (As := [.int x1, .int x2]) ⟨hx, hb, hml, hown, ht⟩ (fun _ h9 => h9) hK hZ hA hB (c_X7_valueOf l g P s_3 x0 x1 x2 hk_x0 H.size hc_7) (R_recv hK hB (ky_in _ (by rw [hk_x0]; decide)) (cell_1 hk_x0) rfl) tw335 tw347 tw333 tw334 tw2 ⟨by decide, by decide, by decide⟩ rfl rfl ⟨Nat.le_of_ble_eq_true rfl, Nat.le_of_ble_eq_true rfl⟩ rfl hl.1 rfl (Nat.le_of_ble_eq_true rfl) dX7_dearestFigure_21 ⟨Nat.zero_le _, Nat.zero_le _⟩) hB hA rfl (fun H locs hB => ?_)
        refine lv_icmp_le (tgt := 29) hx hb dX7_dearestFigure_24 (by decide) (fun c_8 => ?_) (fun c_8 => ?_)
        · replace h := itp h c_8
          exact hb_29 x2 x3 s_6 H locs ls h hB (lv_sub hl [0, 1, 2, 3] rfl)
        · replace h := itn h c_8
          refine lv_iload_n hx hb dX7_dearestFigure_27 rfl (lv_at hl 3 rfl) ?_
          refine lv_istore_n (lv' := [(2, .int x3), (0, .ref (gL g x0)), (1, .int x1), (3, .int x3)]) hx hb dX7_dearestFigure_28 rfl hl (by decide) rfl (fun ls hl => ?_)
          exact hb_29 x3 x3 s_6 H locs ls h hB (lv_sub hl [1, 2, 0, 3] rfl)
  suffices hmain : ∀ (H : Heap) (locs : List Loc) (ls : Array Slot), tB g P σ A s.heap H locs → lv_has ls 4 [(0, .ref (gL g k0)), (1, .int a1)] → WQ p l e { frames := 1, cells := 0, slots := 0, locals := 23 } s m args below meth c g P A (some (.int r)) τ H locs (F0 m 0 ls []) from hmain _ _ ls0 hB0 hl0
  intro H locs ls hB hl
  unfold f_X7_dearestFigure at h
  refine lv_iconst (v := 0) hx hb dX7_dearestFigure_0 (by decide) ?_
  refine lv_istore_n (lv' := [(2, .int (0 : Int32)), (0, .ref (gL g k0)), (1, .int a1)]) hx hb dX7_dearestFigure_1 rfl hl (by decide) rfl (fun ls hl => ?_)
  refine lv_iconst (v := 1) hx hb dX7_dearestFigure_2 (by decide) ?_
  refine lv_istore_n (lv' := [(3, .int (1 : Int32)), (2, .int (0 : Int32)), (0, .ref (gL g k0)), (1, .int a1)]) hx hb dX7_dearestFigure_3 rfl hl (by decide) rfl (fun ls hl => ?_)
  exact hL_4 k0 a1 hk_k0 fuel (0 : Int32) (1 : Int32) σ H locs ls h hB (lv_sub hl [2, 3, 1, 0] rfl)
def f_X7_slateFull (k0 : Nat) (σ : Hp) : Option (Int32 × Hp) := if (hI σ k0 3) < (20 : Int32) then some ((0 : Int32), σ) else some ((1 : Int32), σ)
set_option maxHeartbeats 4000000 in
set_option maxRecDepth 100000 in
theorem c_X7_slateFull (l : Launch) (g : tG) (P : Nat → Nat) (σ : Hp) (k0 : Nat) (hk_k0 : ky k0 = 1) (sz : Nat) {r : Int32} {τ : Hp} (h : f_X7_slateFull k0 σ = some (r, τ)) : Met l yX7_slateFull (Cond.code yX7_slateFull cX7_slateFull 1 (some .boolean) :: tblG) ({ frames := 0, cells := 0, slots := 0, locals := 0 }) (va_Pc [.ref (gL g k0)] (tPre g P σ sz)) (tQ (some (.int r)) (tPost g P τ (va_A (wC g P σ) sz)) (va_A (wC g P σ) sz)) 0 0 (va_A (wC g P σ) sz) := by
  refine T_start (B := fun A => tPost g P τ A) (by decide) (Nat.le_of_ble_eq_true rfl) ?_
  intro p e s m args below meth c ls0 A hx hb hml hr hown hlocks ht hnm hK hZ hA hB0 hl0
  suffices hmain : ∀ (H : Heap) (locs : List Loc) (ls : Array Slot), tB g P σ A s.heap H locs → lv_has ls 1 [(0, .ref (gL g k0))] → WQ p l e { frames := 0, cells := 0, slots := 0, locals := 0 } s m args below meth c g P A (some (.int r)) τ H locs (F0 m 0 ls []) from hmain _ _ ls0 hB0 hl0
  intro H locs ls hB hl
  unfold f_X7_slateFull at h
  refine lv_aload_n hx hb dX7_slateFull_0 rfl (lv_at hl 0 rfl) ?_
  refine R_get (v := .int (hI σ k0 3)) hx hb ht ui_X7 hown hK hB (ky_in _ (by rw [hk_k0]; decide)) (cell_1 hk_k0) rfl 3 (by decide) (ht _ tw52) (fun _ h9 => h9) rfl dX7_slateFull_1 ?_
  refine lv_aload_n hx hb dX7_slateFull_4 rfl (lv_at hl 0 rfl) ?_
  refine R_get (v := .ref (gL g (k0 + 9))) hx hb ht ui_X7 hown hK hB (ky_in _ (by rw [hk_k0]; decide)) (cell_1 hk_k0) rfl 6 (by decide) (ht _ tw57) (fun _ h9 => h9) rfl dX7_slateFull_5 ?_
  refine R_alenJ hx hb (v := (20 : Int32)) hK hB (ky_s9 hk_k0) (by rw [(ln_s9 hk_k0)]; rfl) dX7_slateFull_8 ?_
  refine lv_icmp_lt (tgt := 16) hx hb dX7_slateFull_9 (by decide) (fun c_1 => ?_) (fun c_1 => ?_)
  · replace h := itp h c_1
    refine lv_iconst (v := 0) hx hb dX7_slateFull_16 (by decide) ?_
    obtain ⟨rfl, rfl⟩ := Prod.mk.inj (Option.some.inj h)
    exact W.zret hx hb hr rfl (R_end hB) hB.2.2.2.2 dX7_slateFull_17
  · replace h := itn h c_1
    refine lv_iconst (v := 1) hx hb dX7_slateFull_12 (by decide) ?_
    refine lv_goto (tgt := 17) hx hb dX7_slateFull_13 (by decide) ?_
    obtain ⟨rfl, rfl⟩ := Prod.mk.inj (Option.some.inj h)
    exact W.zret hx hb hr rfl (R_end hB) hB.2.2.2.2 dX7_slateFull_17
def f_X7_put (k0 : Nat) (a1 : Int64) (σ : Hp) : Option (Unit × Hp) := if (hI σ k0 3) < 0 then some ((), σ) else if (20 : Int32) ≤ (hI σ k0 3) then some ((), σ) else ck (inb (hI σ k0 3) 20 = true) (some ((), (sI (sJ σ (k0 + 9) (hI σ k0 3).toNatClampNeg a1) k0 3 ((hI (sJ σ (k0 + 9) (hI σ k0 3).toNatClampNeg a1) k0 3) + (1 : Int32)))))
set_option maxHeartbeats 4000000 in
set_option maxRecDepth 100000 in
theorem c_X7_put (l : Launch) (g : tG) (P : Nat → Nat) (σ : Hp) (k0 : Nat) (a1 : Int64) (hk_k0 : ky k0 = 1) (sz : Nat) {r : Unit} {τ : Hp} (h : f_X7_put k0 a1 σ = some (r, τ)) : Met l yX7_put (Cond.code yX7_put cX7_put 3 none :: tblG) ({ frames := 0, cells := 0, slots := 0, locals := 0 }) (va_Pc [.ref (gL g k0), .long a1] (tPre g P σ sz)) (tQ none (tPost g P τ (va_A (wC g P σ) sz)) (va_A (wC g P σ) sz)) 0 0 (va_A (wC g P σ) sz) := by
  refine T_start (B := fun A => tPost g P τ A) (by decide) (Nat.le_of_ble_eq_true rfl) ?_
  intro p e s m args below meth c ls0 A hx hb hml hr hown hlocks ht hnm hK hZ hA hB0 hl0
  suffices hmain : ∀ (H : Heap) (locs : List Loc) (ls : Array Slot), tB g P σ A s.heap H locs → lv_has ls 3 [(0, .ref (gL g k0)), (1, .long a1)] → WQ p l e { frames := 0, cells := 0, slots := 0, locals := 0 } s m args below meth c g P A none τ H locs (F0 m 0 ls []) from hmain _ _ ls0 hB0 hl0
  intro H locs ls hB hl
  unfold f_X7_put at h
  refine lv_aload_n hx hb dX7_put_0 rfl (lv_at hl 0 rfl) ?_
  refine R_get (v := .int (hI σ k0 3)) hx hb ht ui_X7 hown hK hB (ky_in _ (by rw [hk_k0]; decide)) (cell_1 hk_k0) rfl 3 (by decide) (ht _ tw52) (fun _ h9 => h9) rfl dX7_put_1 ?_
  refine lv_if_lt (tgt := 39) hx hb dX7_put_4 (by decide) (fun c_1 => ?_) (fun c_1 => ?_)
  · replace h := itp h c_1
    obtain ⟨rfl, rfl⟩ := Prod.mk.inj (Option.some.inj h)
    exact W.vret hx hb hr (R_end hB) hB.2.2.2.2 dX7_put_39
  · replace h := itn h c_1
    refine lv_aload_n hx hb dX7_put_7 rfl (lv_at hl 0 rfl) ?_
    refine R_get (v := .int (hI σ k0 3)) hx hb ht ui_X7 hown hK hB (ky_in _ (by rw [hk_k0]; decide)) (cell_1 hk_k0) rfl 3 (by decide) (ht _ tw52) (fun _ h9 => h9) rfl dX7_put_8 ?_
    refine lv_aload_n hx hb dX7_put_11 rfl (lv_at hl 0 rfl) ?_
    refine R_get (v := .ref (gL g (k0 + 9))) hx hb ht ui_X7 hown hK hB (ky_in _ (by rw [hk_k0]; decide)) (cell_1 hk_k0) rfl 6 (by decide) (ht _ tw57) (fun _ h9 => h9) rfl dX7_put_12 ?_
    refine R_alenJ hx hb (v := (20 : Int32)) hK hB (ky_s9 hk_k0) (by rw [(ln_s9 hk_k0)]; rfl) dX7_put_15 ?_
    refine lv_icmp_ge (tgt := 39) hx hb dX7_put_16 (by decide) (fun c_2 => ?_) (fun c_2 => ?_)
    · replace h := itp h c_2
      obtain ⟨rfl, rfl⟩ := Prod.mk.inj (Option.some.inj h)
      exact W.vret hx hb hr (R_end hB) hB.2.2.2.2 dX7_put_39
    · replace h := itn h c_2
      refine lv_aload_n hx hb dX7_put_19 rfl (lv_at hl 0 rfl) ?_
      refine R_get (v := .ref (gL g (k0 + 9))) hx hb ht ui_X7 hown hK hB (ky_in _ (by rw [hk_k0]; decide)) (cell_1 hk_k0) rfl 6 (by decide) (ht _ tw57) (fun _ h9 => h9) rfl dX7_put_20 ?_
      refine lv_aload_n hx hb dX7_put_23 rfl (lv_at hl 0 rfl) ?_
      refine R_get (v := .int (hI σ k0 3)) hx hb ht ui_X7 hown hK hB (ky_in _ (by rw [hk_k0]; decide)) (cell_1 hk_k0) rfl 3 (by decide) (ht _ tw52) (fun _ h9 => h9) rfl dX7_put_24 ?_
      refine lv_lload_n hx hb dX7_put_27 rfl (lv_at hl 1 rfl) ?_
      replace h := ck_eq h; obtain ⟨q_3, h⟩ := h
      refine R_last hx hb hK hB (ky_s9 hk_k0) (by rw [(ln_s9 hk_k0)]; exact inb_eq q_3) dX7_put_28 (fun H locs hB => ?_)
      refine lv_aload_n hx hb dX7_put_29 rfl (lv_at hl 0 rfl) ?_
      refine lv_dup hx hb dX7_put_30 rfl ?_
      refine R_get (v := .int (hI (sJ σ (k0 + 9) (hI σ k0 3).toNatClampNeg a1) k0 3)) hx hb ht ui_X7 hown hK hB (ky_in _ (by rw [hk_k0]; decide)) (cell_1 hk_k0) rfl 3 (by decide) (ht _ tw52) (fun _ h9 => h9) rfl dX7_put_31 ?_
      refine lv_iconst (v := 1) hx hb dX7_put_34 (by decide) ?_
      refine lv_iadd hx hb dX7_put_35 ?_
      refine R_putI (v := ((hI (sJ σ (k0 + 9) (hI σ k0 3).toNatClampNeg a1) k0 3) + (1 : Int32))) (ty := .int) hx hb ht ui_X7 tyX7 tyX7_ok nmX7 hown hK hB (ky_in _ (by rw [hk_k0]; decide)) (cell_1 hk_k0) rfl 3 (by decide) (ht _ tw52) (fun _ h9 => h9) rfl (by decide +kernel) rfl rfl (Nat.le_of_ble_eq_true rfl) (st1_3 hk_k0) dX7_put_36 (fun H locs hB => ?_)
      obtain ⟨rfl, rfl⟩ := Prod.mk.inj (Option.some.inj h)
      exact W.vret hx hb hr (R_end hB) hB.2.2.2.2 dX7_put_39
def f_X7_lastNumber (k0 : Nat) (σ : Hp) : Option (Int64 × Hp) := if ((hI σ k0 3) - (1 : Int32)) < 0 then some ((-1 : Int64), σ) else if (20 : Int32) ≤ ((hI σ k0 3) - (1 : Int32)) then some ((-1 : Int64), σ) else ck (inb ((hI σ k0 3) - (1 : Int32)) 20 = true) (some ((hJ σ (k0 + 9) ((hI σ k0 3) - (1 : Int32)).toNatClampNeg), σ))
set_option maxHeartbeats 4000000 in
set_option maxRecDepth 100000 in
theorem c_X7_lastNumber (l : Launch) (g : tG) (P : Nat → Nat) (σ : Hp) (k0 : Nat) (hk_k0 : ky k0 = 1) (sz : Nat) {r : Int64} {τ : Hp} (h : f_X7_lastNumber k0 σ = some (r, τ)) : Met l yX7_lastNumber (Cond.code yX7_lastNumber cX7_lastNumber 2 (some .long) :: tblG) ({ frames := 0, cells := 0, slots := 0, locals := 0 }) (va_Pc [.ref (gL g k0)] (tPre g P σ sz)) (tQ (some (.long r)) (tPost g P τ (va_A (wC g P σ) sz)) (va_A (wC g P σ) sz)) 0 0 (va_A (wC g P σ) sz) := by
  refine T_start (B := fun A => tPost g P τ A) (by decide) (Nat.le_of_ble_eq_true rfl) ?_
  intro p e s m args below meth c ls0 A hx hb hml hr hown hlocks ht hnm hK hZ hA hB0 hl0
  suffices hmain : ∀ (H : Heap) (locs : List Loc) (ls : Array Slot), tB g P σ A s.heap H locs → lv_has ls 2 [(0, .ref (gL g k0))] → WQ p l e { frames := 0, cells := 0, slots := 0, locals := 0 } s m args below meth c g P A (some (.long r)) τ H locs (F0 m 0 ls []) from hmain _ _ ls0 hB0 hl0
  intro H locs ls hB hl
  unfold f_X7_lastNumber at h
  refine lv_aload_n hx hb dX7_lastNumber_0 rfl (lv_at hl 0 rfl) ?_
  refine R_get (v := .int (hI σ k0 3)) hx hb ht ui_X7 hown hK hB (ky_in _ (by rw [hk_k0]; decide)) (cell_1 hk_k0) rfl 3 (by decide) (ht _ tw52) (fun _ h9 => h9) rfl dX7_lastNumber_1 ?_
  refine lv_iconst (v := 1) hx hb dX7_lastNumber_4 (by decide) ?_
  refine lv_isub hx hb dX7_lastNumber_5 ?_
  refine lv_istore_n (lv' := [(1, .int ((hI σ k0 3) - (1 : Int32))), (0, .ref (gL g k0))]) hx hb dX7_lastNumber_6 rfl hl (by decide) rfl (fun ls hl => ?_)
  refine lv_iload_n hx hb dX7_lastNumber_7 rfl (lv_at hl 0 rfl) ?_
  refine lv_if_lt (tgt := 29) hx hb dX7_lastNumber_8 (by decide) (fun c_1 => ?_) (fun c_1 => ?_)
  · replace h := itp h c_1
    refine lv_ldc2 (v := -1) hx hb hown (ht _ tw608) dX7_lastNumber_29 ?_
    obtain ⟨rfl, rfl⟩ := Prod.mk.inj (Option.some.inj h)
    exact W.lret hx hb hr (R_end hB) hB.2.2.2.2 dX7_lastNumber_32
  · replace h := itn h c_1
    refine lv_iload_n hx hb dX7_lastNumber_11 rfl (lv_at hl 0 rfl) ?_
    refine lv_aload_n hx hb dX7_lastNumber_12 rfl (lv_at hl 1 rfl) ?_
    refine R_get (v := .ref (gL g (k0 + 9))) hx hb ht ui_X7 hown hK hB (ky_in _ (by rw [hk_k0]; decide)) (cell_1 hk_k0) rfl 6 (by decide) (ht _ tw57) (fun _ h9 => h9) rfl dX7_lastNumber_13 ?_
    refine R_alenJ hx hb (v := (20 : Int32)) hK hB (ky_s9 hk_k0) (by rw [(ln_s9 hk_k0)]; rfl) dX7_lastNumber_16 ?_
    refine lv_icmp_ge (tgt := 29) hx hb dX7_lastNumber_17 (by decide) (fun c_2 => ?_) (fun c_2 => ?_)
    · replace h := itp h c_2
      refine lv_ldc2 (v := -1) hx hb hown (ht _ tw608) dX7_lastNumber_29 ?_
      obtain ⟨rfl, rfl⟩ := Prod.mk.inj (Option.some.inj h)
      exact W.lret hx hb hr (R_end hB) hB.2.2.2.2 dX7_lastNumber_32
    · replace h := itn h c_2
      refine lv_aload_n hx hb dX7_lastNumber_20 rfl (lv_at hl 1 rfl) ?_
      refine R_get (v := .ref (gL g (k0 + 9))) hx hb ht ui_X7 hown hK hB (ky_in _ (by rw [hk_k0]; decide)) (cell_1 hk_k0) rfl 6 (by decide) (ht _ tw57) (fun _ h9 => h9) rfl dX7_lastNumber_21 ?_
      refine lv_iload_n hx hb dX7_lastNumber_24 rfl (lv_at hl 0 rfl) ?_
      replace h := ck_eq h; obtain ⟨q_3, h⟩ := h
      refine R_lald hx hb hK hB (ky_s9 hk_k0) (by rw [(ln_s9 hk_k0)]; exact inb_eq q_3) dX7_lastNumber_25 ?_
      refine lv_goto (tgt := 32) hx hb dX7_lastNumber_26 (by decide) ?_
      obtain ⟨rfl, rfl⟩ := Prod.mk.inj (Option.some.inj h)
      exact W.lret hx hb hr (R_end hB) hB.2.2.2.2 dX7_lastNumber_32
def f_X7_draw (k0 : Nat) (a1 : Int32) (σ : Hp) : Option (Int32 × Hp) := if a1 ≤ 0 then some ((0 : Int32), (sI σ k0 1 (((hI σ k0 1) * (1103515245 : Int32)) + (12345 : Int32)))) else ck (¬ a1 = 0) (some ((((hI (sI σ k0 1 (((hI σ k0 1) * (1103515245 : Int32)) + (12345 : Int32))) k0 1).toUInt32 >>> ((16 : Int32).toUInt32 &&& Int32.toUInt32 31)).toInt32 - ((hI (sI σ k0 1 (((hI σ k0 1) * (1103515245 : Int32)) + (12345 : Int32))) k0 1).toUInt32 >>> ((16 : Int32).toUInt32 &&& Int32.toUInt32 31)).toInt32 / a1 * a1), (sI σ k0 1 (((hI σ k0 1) * (1103515245 : Int32)) + (12345 : Int32)))))
set_option maxHeartbeats 4000000 in
set_option maxRecDepth 100000 in
theorem c_X7_draw (l : Launch) (g : tG) (P : Nat → Nat) (σ : Hp) (k0 : Nat) (a1 : Int32) (hk_k0 : ky k0 = 1) (sz : Nat) {r : Int32} {τ : Hp} (h : f_X7_draw k0 a1 σ = some (r, τ)) : Met l yX7_draw (Cond.code yX7_draw cX7_draw 2 (some .int) :: tblG) ({ frames := 0, cells := 0, slots := 0, locals := 0 }) (va_Pc [.ref (gL g k0), .int a1] (tPre g P σ sz)) (tQ (some (.int r)) (tPost g P τ (va_A (wC g P σ) sz)) (va_A (wC g P σ) sz)) 0 0 (va_A (wC g P σ) sz) := by
  refine T_start (B := fun A => tPost g P τ A) (by decide) (Nat.le_of_ble_eq_true rfl) ?_
  intro p e s m args below meth c ls0 A hx hb hml hr hown hlocks ht hnm hK hZ hA hB0 hl0
  suffices hmain : ∀ (H : Heap) (locs : List Loc) (ls : Array Slot), tB g P σ A s.heap H locs → lv_has ls 2 [(0, .ref (gL g k0)), (1, .int a1)] → WQ p l e { frames := 0, cells := 0, slots := 0, locals := 0 } s m args below meth c g P A (some (.int r)) τ H locs (F0 m 0 ls []) from hmain _ _ ls0 hB0 hl0
  intro H locs ls hB hl
  unfold f_X7_draw at h
  refine lv_aload_n hx hb dX7_draw_0 rfl (lv_at hl 0 rfl) ?_
  refine lv_aload_n hx hb dX7_draw_1 rfl (lv_at hl 0 rfl) ?_
  refine R_get (v := .int (hI σ k0 1)) hx hb ht ui_X7 hown hK hB (ky_in _ (by rw [hk_k0]; decide)) (cell_1 hk_k0) rfl 1 (by decide) (ht _ tw47) (fun _ h9 => h9) rfl dX7_draw_2 ?_
  refine lv_ldc (v := 1103515245) hx hb hown (ht _ tw816) dX7_draw_5 ?_
  refine lv_imul hx hb dX7_draw_7 ?_
  refine lv_sipush (v := 12345) hx hb dX7_draw_8 (by decide) ?_
  refine lv_iadd hx hb dX7_draw_11 ?_
  refine R_putI (v := (((hI σ k0 1) * (1103515245 : Int32)) + (12345 : Int32))) (ty := .int) hx hb ht ui_X7 tyX7 tyX7_ok nmX7 hown hK hB (ky_in _ (by rw [hk_k0]; decide)) (cell_1 hk_k0) rfl 1 (by decide) (ht _ tw47) (fun _ h9 => h9) rfl (by decide +kernel) rfl rfl (Nat.le_of_ble_eq_true rfl) (st1_1 hk_k0) dX7_draw_12 (fun H locs hB => ?_)
  refine lv_iload_n hx hb dX7_draw_15 rfl (lv_at hl 1 rfl) ?_
  refine lv_if_le (tgt := 31) hx hb dX7_draw_16 (by decide) (fun c_2 => ?_) (fun c_2 => ?_)
  · replace h := itp h c_2
    refine lv_iconst (v := 0) hx hb dX7_draw_31 (by decide) ?_
    obtain ⟨rfl, rfl⟩ := Prod.mk.inj (Option.some.inj h)
    exact W.iret hx hb hr (R_end hB) hB.2.2.2.2 dX7_draw_32
  · replace h := itn h c_2
    refine lv_aload_n hx hb dX7_draw_19 rfl (lv_at hl 0 rfl) ?_
    refine R_get (v := .int (hI (sI σ k0 1 (((hI σ k0 1) * (1103515245 : Int32)) + (12345 : Int32))) k0 1)) hx hb ht ui_X7 hown hK hB (ky_in _ (by rw [hk_k0]; decide)) (cell_1 hk_k0) rfl 1 (by decide) (ht _ tw47) (fun _ h9 => h9) rfl dX7_draw_20 ?_
    refine lv_bipush (v := 16) hx hb dX7_draw_23 (by decide) ?_
    refine lv_iushr (v := ((hI (sI σ k0 1 (((hI σ k0 1) * (1103515245 : Int32)) + (12345 : Int32))) k0 1).toUInt32 >>> ((16 : Int32).toUInt32 &&& Int32.toUInt32 31)).toInt32) hx hb dX7_draw_25 rfl ?_
    refine lv_iload_n hx hb dX7_draw_26 rfl (lv_at hl 1 rfl) ?_
    replace h := ck_eq h; obtain ⟨q_3, h⟩ := h
    refine lv_irem hx hb dX7_draw_27 q_3 ?_
    refine lv_goto (tgt := 32) hx hb dX7_draw_28 (by decide) ?_
    obtain ⟨rfl, rfl⟩ := Prod.mk.inj (Option.some.inj h)
    exact W.iret hx hb hr (R_end hB) hB.2.2.2.2 dX7_draw_32
def f_X7_lawAt (k0 : Nat) (a1 : Int32) (σ : Hp) : Option (Option Nat × Hp) := if a1 < 0 then some (none, σ) else if (hI σ k0 2) ≤ a1 then some (none, σ) else if (6 : Int32) ≤ a1 then some (none, σ) else ck (inb a1 6 = true) (some ((hR σ (k0 + 3) a1.toNatClampNeg), σ))
set_option maxHeartbeats 4000000 in
set_option maxRecDepth 100000 in
theorem c_X7_lawAt (l : Launch) (g : tG) (P : Nat → Nat) (σ : Hp) (k0 : Nat) (a1 : Int32) (hk_k0 : ky k0 = 1) (sz : Nat) {r : Option Nat} {τ : Hp} (h : f_X7_lawAt k0 a1 σ = some (r, τ)) : Met l yX7_lawAt (Cond.code yX7_lawAt cX7_lawAt 2 (some (.object "TurnedAbout$Law")) :: tblG) ({ frames := 0, cells := 0, slots := 0, locals := 0 }) (va_Pc [.ref (gL g k0), .int a1] (tPre g P σ sz)) (tQ (some (va_rf (Option.map P r))) (tPost g P τ (va_A (wC g P σ) sz)) (va_A (wC g P σ) sz)) 0 0 (va_A (wC g P σ) sz) := by
  refine T_start (B := fun A => tPost g P τ A) (by decide) (Nat.le_of_ble_eq_true rfl) ?_
  intro p e s m args below meth c ls0 A hx hb hml hr hown hlocks ht hnm hK hZ hA hB0 hl0
  suffices hmain : ∀ (H : Heap) (locs : List Loc) (ls : Array Slot), tB g P σ A s.heap H locs → lv_has ls 2 [(0, .ref (gL g k0)), (1, .int a1)] → WQ p l e { frames := 0, cells := 0, slots := 0, locals := 0 } s m args below meth c g P A (some (va_rf (Option.map P r))) τ H locs (F0 m 0 ls []) from hmain _ _ ls0 hB0 hl0
  intro H locs ls hB hl
  unfold f_X7_lawAt at h
  refine lv_iload_n hx hb dX7_lawAt_0 rfl (lv_at hl 1 rfl) ?_
  refine lv_if_lt (tgt := 30) hx hb dX7_lawAt_1 (by decide) (fun c_1 => ?_) (fun c_1 => ?_)
  · replace h := itp h c_1
    refine lv_null hx hb dX7_lawAt_30 ?_
    obtain ⟨rfl, rfl⟩ := Prod.mk.inj (Option.some.inj h)
    exact W.aret hx hb hr (Or.inl ⟨_, rfl⟩) (va_rf_or _) (R_end hB) hB.2.2.2.2 dX7_lawAt_31
  · replace h := itn h c_1
    refine lv_iload_n hx hb dX7_lawAt_4 rfl (lv_at hl 1 rfl) ?_
    refine lv_aload_n hx hb dX7_lawAt_5 rfl (lv_at hl 0 rfl) ?_
    refine R_get (v := .int (hI σ k0 2)) hx hb ht ui_X7 hown hK hB (ky_in _ (by rw [hk_k0]; decide)) (cell_1 hk_k0) rfl 2 (by decide) (ht _ tw49) (fun _ h9 => h9) rfl dX7_lawAt_6 ?_
    refine lv_icmp_ge (tgt := 30) hx hb dX7_lawAt_9 (by decide) (fun c_2 => ?_) (fun c_2 => ?_)
    · replace h := itp h c_2
      refine lv_null hx hb dX7_lawAt_30 ?_
      obtain ⟨rfl, rfl⟩ := Prod.mk.inj (Option.some.inj h)
      exact W.aret hx hb hr (Or.inl ⟨_, rfl⟩) (va_rf_or _) (R_end hB) hB.2.2.2.2 dX7_lawAt_31
    · replace h := itn h c_2
      refine lv_iload_n hx hb dX7_lawAt_12 rfl (lv_at hl 1 rfl) ?_
      refine lv_aload_n hx hb dX7_lawAt_13 rfl (lv_at hl 0 rfl) ?_
      refine R_get (v := .ref (gL g (k0 + 3))) hx hb ht ui_X7 hown hK hB (ky_in _ (by rw [hk_k0]; decide)) (cell_1 hk_k0) rfl 4 (by decide) (ht _ tw55) (fun _ h9 => h9) rfl dX7_lawAt_14 ?_
      refine R_alenR hx hb (v := (6 : Int32)) hK hB (ky_s3 hk_k0) (by rw [(ln_s3 hk_k0)]; rfl) dX7_lawAt_17 ?_
      refine lv_icmp_ge (tgt := 30) hx hb dX7_lawAt_18 (by decide) (fun c_3 => ?_) (fun c_3 => ?_)
      · replace h := itp h c_3
        refine lv_null hx hb dX7_lawAt_30 ?_
        obtain ⟨rfl, rfl⟩ := Prod.mk.inj (Option.some.inj h)
        exact W.aret hx hb hr (Or.inl ⟨_, rfl⟩) (va_rf_or _) (R_end hB) hB.2.2.2.2 dX7_lawAt_31
      · replace h := itn h c_3
        refine lv_aload_n hx hb dX7_lawAt_21 rfl (lv_at hl 0 rfl) ?_
        refine R_get (v := .ref (gL g (k0 + 3))) hx hb ht ui_X7 hown hK hB (ky_in _ (by rw [hk_k0]; decide)) (cell_1 hk_k0) rfl 4 (by decide) (ht _ tw55) (fun _ h9 => h9) rfl dX7_lawAt_22 ?_
        refine lv_iload_n hx hb dX7_lawAt_25 rfl (lv_at hl 1 rfl) ?_
        replace h := ck_eq h; obtain ⟨q_4, h⟩ := h
        refine R_aald hx hb hK hB (ky_s3 hk_k0) (by rw [(ln_s3 hk_k0)]; exact inb_eq q_4) dX7_lawAt_26 ?_
        refine lv_goto (tgt := 31) hx hb dX7_lawAt_27 (by decide) ?_
        obtain ⟨rfl, rfl⟩ := Prod.mk.inj (Option.some.inj h)
        exact W.aret hx hb hr (Or.inl ⟨_, rfl⟩) (va_rf_or _) (R_end hB) hB.2.2.2.2 dX7_lawAt_31
def f_X7_takeOver_t110 (x0 : Nat) (x1 : Nat) (x2 : Int32) (σ1 : Hp) : Option ((Int32 × Hp) ⊕ (Unit × Hp)) := if (20 : Int32) ≤ x2 then ex (some ((), σ1)) else if (20 : Int32) ≤ x2 then ex (some ((), σ1)) else ck (inb x2 20 = true) (some (.inl ((x2 + 1), (sJ σ1 (x0 + 9) x2.toNatClampNeg (hJ σ1 (x1 + 9) x2.toNatClampNeg)))))
def f_X7_takeOver_s110 (x0 : Nat) (x1 : Nat) (v : (Int32 × Hp)) : Option ((Int32 × Hp) ⊕ (Unit × Hp)) := f_X7_takeOver_t110 x0 x1 v.1 v.2
def f_X7_takeOver_b108 (x0 : Nat) (x1 : Nat) (σ1 : Hp) : Option (Unit × Hp) := iter (f_X7_takeOver_s110 x0 x1) fuel ((0 : Int32), σ1)
def f_X7_takeOver_t72 (x0 : Nat) (x1 : Nat) (x2 : Int32) (σ1 : Hp) : Option ((Int32 × Hp) ⊕ (Unit × Hp)) := if (60 : Int32) ≤ x2 then ex (f_X7_takeOver_b108 x0 x1 σ1) else if (60 : Int32) ≤ x2 then ex (f_X7_takeOver_b108 x0 x1 σ1) else ck (inb x2 60 = true) (some (.inl ((x2 + 1), (sI σ1 (x0 + 6) x2.toNatClampNeg (hI σ1 (x1 + 6) x2.toNatClampNeg)))))
def f_X7_takeOver_s72 (x0 : Nat) (x1 : Nat) (v : (Int32 × Hp)) : Option ((Int32 × Hp) ⊕ (Unit × Hp)) := f_X7_takeOver_t72 x0 x1 v.1 v.2
def f_X7_takeOver_b70 (x0 : Nat) (x1 : Nat) (σ1 : Hp) : Option (Unit × Hp) := iter (f_X7_takeOver_s72 x0 x1) fuel ((0 : Int32), σ1)
def f_X7_takeOver_t34 (x0 : Nat) (x1 : Nat) (x2 : Int32) (σ1 : Hp) : Option ((Int32 × Hp) ⊕ (Unit × Hp)) := if (6 : Int32) ≤ x2 then ex (f_X7_takeOver_b70 x0 x1 σ1) else if (6 : Int32) ≤ x2 then ex (f_X7_takeOver_b70 x0 x1 σ1) else ck (inb x2 6 = true) (ck (okLaw σ1 (hR σ1 (x1 + 3) x2.toNatClampNeg) = true) (some (.inl ((x2 + 1), (sR σ1 (x0 + 3) x2.toNatClampNeg (hR σ1 (x1 + 3) x2.toNatClampNeg))))))
def f_X7_takeOver_s34 (x0 : Nat) (x1 : Nat) (v : (Int32 × Hp)) : Option ((Int32 × Hp) ⊕ (Unit × Hp)) := f_X7_takeOver_t34 x0 x1 v.1 v.2
def f_X7_takeOver (k0 : Nat) (k1 : Nat) (σ : Hp) : Option (Unit × Hp) := iter (f_X7_takeOver_s34 k0 k1) fuel ((0 : Int32), (sI (sI (sI (sI σ k0 0 (hI σ k1 0)) k0 1 (hI (sI σ k0 0 (hI σ k1 0)) k1 1)) k0 2 (hI (sI (sI σ k0 0 (hI σ k1 0)) k0 1 (hI (sI σ k0 0 (hI σ k1 0)) k1 1)) k1 2)) k0 3 (hI (sI (sI (sI σ k0 0 (hI σ k1 0)) k0 1 (hI (sI σ k0 0 (hI σ k1 0)) k1 1)) k0 2 (hI (sI (sI σ k0 0 (hI σ k1 0)) k0 1 (hI (sI σ k0 0 (hI σ k1 0)) k1 1)) k1 2)) k1 3)))
set_option maxHeartbeats 4000000 in
set_option maxRecDepth 100000 in
theorem c_X7_takeOver (l : Launch) (g : tG) (P : Nat → Nat) (σ : Hp) (k0 : Nat) (k1 : Nat) (hk_k0 : ky k0 = 1) (hk_k1 : ky k1 = 1) (sz : Nat) {r : Unit} {τ : Hp} (h : f_X7_takeOver k0 k1 σ = some (r, τ)) : Met l yX7_takeOver (Cond.code yX7_takeOver cX7_takeOver 3 none :: tblG) ({ frames := 0, cells := 0, slots := 0, locals := 0 }) (va_Pc [.ref (gL g k0), .ref (gL g k1)] (tPre g P σ sz)) (tQ none (tPost g P τ (va_A (wC g P σ) sz)) (va_A (wC g P σ) sz)) 0 0 (va_A (wC g P σ) sz) := by
  refine T_start (B := fun A => tPost g P τ A) (by decide) (Nat.le_of_ble_eq_true rfl) ?_
  intro p e s m args below meth c ls0 A hx hb hml hr hown hlocks ht hnm hK hZ hA hB0 hl0
  have hL_110 : ∀ (x0 : Nat) (x1 : Nat) (hk_x0 : ky x0 = 1) (hk_x1 : ky x1 = 1) (n : Nat) (x2 : Int32) (σ1 : Hp) (H : Heap) (locs : List Loc) (ls : Array Slot), iter (f_X7_takeOver_s110 x0 x1) n (x2, σ1) = some (r, τ) → tB g P σ1 A s.heap H locs → lv_has ls 3 [(0, .ref (gL g x0)), (1, .ref (gL g x1)), (2, .int x2)] → WQ p l e { frames := 0, cells := 0, slots := 0, locals := 0 } s m args below meth c g P A none τ H locs (F0 m 110 ls []) := by
    intro x0 x1 hk_x0 hk_x1 n
    induction n with
    | zero =>
      intro x2 σ1 H locs ls h hB hl
      exact (iter_0 h).elim
    | succ n ih1 =>
      intro x2 σ1 H locs ls h hB hl
      replace h := iter_eq h; obtain ⟨z1, hh1, hx1⟩ := h
      have h : f_X7_takeOver_t110 x0 x1 x2 σ1 = some z1 := hh1
      clear hh1
      unfold f_X7_takeOver_t110 at h
      refine lv_iload_n hx hb dX7_takeOver_110 rfl (lv_at hl 2 rfl) ?_
      refine lv_aload_n hx hb dX7_takeOver_111 rfl (lv_at hl 0 rfl) ?_
      refine R_get (v := .ref (gL g (x0 + 9))) hx hb ht ui_X7 hown hK hB (ky_in _ (by rw [hk_x0]; decide)) (cell_1 hk_x0) rfl 6 (by decide) (ht _ tw57) (fun _ h9 => h9) rfl dX7_takeOver_112 ?_
      refine R_alenJ hx hb (v := (20 : Int32)) hK hB (ky_s9 hk_x0) (by rw [(ln_s9 hk_x0)]; rfl) dX7_takeOver_115 ?_
      refine lv_icmp_ge (tgt := 146) hx hb dX7_takeOver_116 (by decide) (fun c_3 => ?_) (fun c_3 => ?_)
      · replace h := itp h c_3
        replace h := ex_eq h; obtain ⟨b1, h, hz1⟩ := h
        subst hz1
        have hz1 := (itk_inr hx1).symm
        subst hz1
        obtain ⟨rfl, rfl⟩ := Prod.mk.inj (Option.some.inj h)
        exact W.vret hx hb hr (R_end hB) hB.2.2.2.2 dX7_takeOver_146
      · replace h := itn h c_3
        refine lv_iload_n hx hb dX7_takeOver_119 rfl (lv_at hl 2 rfl) ?_
        refine lv_aload_n hx hb dX7_takeOver_120 rfl (lv_at hl 1 rfl) ?_
        refine R_get (v := .ref (gL g (x1 + 9))) hx hb ht ui_X7 hown hK hB (ky_in _ (by rw [hk_x1]; decide)) (cell_1 hk_x1) rfl 6 (by decide) (ht _ tw57) (fun _ h9 => h9) rfl dX7_takeOver_121 ?_
        refine R_alenJ hx hb (v := (20 : Int32)) hK hB (ky_s9 hk_x1) (by rw [(ln_s9 hk_x1)]; rfl) dX7_takeOver_124 ?_
        refine lv_icmp_ge (tgt := 146) hx hb dX7_takeOver_125 (by decide) (fun c_4 => ?_) (fun c_4 => ?_)
        · replace h := itp h c_4
          replace h := ex_eq h; obtain ⟨b1, h, hz1⟩ := h
          subst hz1
          have hz1 := (itk_inr hx1).symm
          subst hz1
          obtain ⟨rfl, rfl⟩ := Prod.mk.inj (Option.some.inj h)
          exact W.vret hx hb hr (R_end hB) hB.2.2.2.2 dX7_takeOver_146
        · replace h := itn h c_4
          refine lv_aload_n hx hb dX7_takeOver_128 rfl (lv_at hl 0 rfl) ?_
          refine R_get (v := .ref (gL g (x0 + 9))) hx hb ht ui_X7 hown hK hB (ky_in _ (by rw [hk_x0]; decide)) (cell_1 hk_x0) rfl 6 (by decide) (ht _ tw57) (fun _ h9 => h9) rfl dX7_takeOver_129 ?_
          refine lv_iload_n hx hb dX7_takeOver_132 rfl (lv_at hl 2 rfl) ?_
          refine lv_aload_n hx hb dX7_takeOver_133 rfl (lv_at hl 1 rfl) ?_
          refine R_get (v := .ref (gL g (x1 + 9))) hx hb ht ui_X7 hown hK hB (ky_in _ (by rw [hk_x1]; decide)) (cell_1 hk_x1) rfl 6 (by decide) (ht _ tw57) (fun _ h9 => h9) rfl dX7_takeOver_134 ?_
          refine lv_iload_n hx hb dX7_takeOver_137 rfl (lv_at hl 2 rfl) ?_
          replace h := ck_eq h; obtain ⟨q_5, h⟩ := h
          refine R_lald hx hb hK hB (ky_s9 hk_x1) (by rw [(ln_s9 hk_x1)]; exact inb_eq q_5) dX7_takeOver_138 ?_
          refine R_last hx hb hK hB (ky_s9 hk_x0) (by rw [(ln_s9 hk_x0)]; exact inb_eq q_5) dX7_takeOver_139 (fun H locs hB => ?_)
          refine lv_iinc (v := x2 + 1) (lv' := [(2, .int (x2 + 1)), (0, .ref (gL g x0)), (1, .ref (gL g x1))]) hx hb dX7_takeOver_140 hl (k := 2) rfl rfl (by decide) rfl (fun ls hl => ?_)
          refine lv_goto (tgt := 110) hx hb dX7_takeOver_143 (by decide) ?_
          obtain rfl := Option.some.inj h
          exact ih1 (x2 + 1) (sJ σ1 (x0 + 9) x2.toNatClampNeg (hJ σ1 (x1 + 9) x2.toNatClampNeg)) H locs ls hx1 hB (lv_sub hl [1, 2, 0] rfl)
  have hb_108 : ∀ (x0 : Nat) (x1 : Nat) (σ1 : Hp) (hk_x0 : ky x0 = 1) (hk_x1 : ky x1 = 1) (H : Heap) (locs : List Loc) (ls : Array Slot), f_X7_takeOver_b108 x0 x1 σ1 = some (r, τ) → tB g P σ1 A s.heap H locs → lv_has ls 3 [(0, .ref (gL g x0)), (1, .ref (gL g x1))] → WQ p l e { frames := 0, cells := 0, slots := 0, locals := 0 } s m args below meth c g P A none τ H locs (F0 m 108 ls []) := by
    intro x0 x1 σ1 hk_x0 hk_x1 H locs ls h hB hl
    unfold f_X7_takeOver_b108 at h
    refine lv_iconst (v := 0) hx hb dX7_takeOver_108 (by decide) ?_
    refine lv_istore_n (lv' := [(2, .int (0 : Int32)), (0, .ref (gL g x0)), (1, .ref (gL g x1))]) hx hb dX7_takeOver_109 rfl hl (by decide) rfl (fun ls hl => ?_)
    exact hL_110 x0 x1 hk_x0 hk_x1 fuel (0 : Int32) σ1 H locs ls h hB (lv_sub hl [1, 2, 0] rfl)
  have hL_72 : ∀ (x0 : Nat) (x1 : Nat) (hk_x0 : ky x0 = 1) (hk_x1 : ky x1 = 1) (n : Nat) (x2 : Int32) (σ1 : Hp) (H : Heap) (locs : List Loc) (ls : Array Slot), iter (f_X7_takeOver_s72 x0 x1) n (x2, σ1) = some (r, τ) → tB g P σ1 A s.heap H locs → lv_has ls 3 [(0, .ref (gL g x0)), (1, .ref (gL g x1)), (2, .int x2)] → WQ p l e { frames := 0, cells := 0, slots := 0, locals := 0 } s m args below meth c g P A none τ H locs (F0 m 72 ls []) := by
    intro x0 x1 hk_x0 hk_x1 n
    induction n with
    | zero =>
      intro x2 σ1 H locs ls h hB hl
      exact (iter_0 h).elim
    | succ n ih1 =>
      intro x2 σ1 H locs ls h hB hl
      replace h := iter_eq h; obtain ⟨z1, hh1, hx1⟩ := h
      have h : f_X7_takeOver_t72 x0 x1 x2 σ1 = some z1 := hh1
      clear hh1
      unfold f_X7_takeOver_t72 at h
      refine lv_iload_n hx hb dX7_takeOver_72 rfl (lv_at hl 2 rfl) ?_
      refine lv_aload_n hx hb dX7_takeOver_73 rfl (lv_at hl 0 rfl) ?_
      refine R_get (v := .ref (gL g (x0 + 6))) hx hb ht ui_X7 hown hK hB (ky_in _ (by rw [hk_x0]; decide)) (cell_1 hk_x0) rfl 5 (by decide) (ht _ tw56) (fun _ h9 => h9) rfl dX7_takeOver_74 ?_
      refine R_alenI hx hb (v := (60 : Int32)) hK hB (ky_s6 hk_x0) (by rw [(ln_s6 hk_x0)]; rfl) dX7_takeOver_77 ?_
      refine lv_icmp_ge (tgt := 108) hx hb dX7_takeOver_78 (by decide) (fun c_2 => ?_) (fun c_2 => ?_)
      · replace h := itp h c_2
        replace h := ex_eq h; obtain ⟨b1, h, hz1⟩ := h
        subst hz1
        have hz1 := (itk_inr hx1).symm
        subst hz1
        exact hb_108 x0 x1 σ1 hk_x0 hk_x1 H locs ls h hB (lv_sub hl [0, 1] rfl)
      · replace h := itn h c_2
        refine lv_iload_n hx hb dX7_takeOver_81 rfl (lv_at hl 2 rfl) ?_
        refine lv_aload_n hx hb dX7_takeOver_82 rfl (lv_at hl 1 rfl) ?_
        refine R_get (v := .ref (gL g (x1 + 6))) hx hb ht ui_X7 hown hK hB (ky_in _ (by rw [hk_x1]; decide)) (cell_1 hk_x1) rfl 5 (by decide) (ht _ tw56) (fun _ h9 => h9) rfl dX7_takeOver_83 ?_
        refine R_alenI hx hb (v := (60 : Int32)) hK hB (ky_s6 hk_x1) (by rw [(ln_s6 hk_x1)]; rfl) dX7_takeOver_86 ?_
        refine lv_icmp_ge (tgt := 108) hx hb dX7_takeOver_87 (by decide) (fun c_6 => ?_) (fun c_6 => ?_)
        · replace h := itp h c_6
          replace h := ex_eq h; obtain ⟨b1, h, hz1⟩ := h
          subst hz1
          have hz1 := (itk_inr hx1).symm
          subst hz1
          exact hb_108 x0 x1 σ1 hk_x0 hk_x1 H locs ls h hB (lv_sub hl [0, 1] rfl)
        · replace h := itn h c_6
          refine lv_aload_n hx hb dX7_takeOver_90 rfl (lv_at hl 0 rfl) ?_
          refine R_get (v := .ref (gL g (x0 + 6))) hx hb ht ui_X7 hown hK hB (ky_in _ (by rw [hk_x0]; decide)) (cell_1 hk_x0) rfl 5 (by decide) (ht _ tw56) (fun _ h9 => h9) rfl dX7_takeOver_91 ?_
          refine lv_iload_n hx hb dX7_takeOver_94 rfl (lv_at hl 2 rfl) ?_
          refine lv_aload_n hx hb dX7_takeOver_95 rfl (lv_at hl 1 rfl) ?_
          refine R_get (v := .ref (gL g (x1 + 6))) hx hb ht ui_X7 hown hK hB (ky_in _ (by rw [hk_x1]; decide)) (cell_1 hk_x1) rfl 5 (by decide) (ht _ tw56) (fun _ h9 => h9) rfl dX7_takeOver_96 ?_
          refine lv_iload_n hx hb dX7_takeOver_99 rfl (lv_at hl 2 rfl) ?_
          replace h := ck_eq h; obtain ⟨q_7, h⟩ := h
          refine R_iald hx hb hK hB (ky_s6 hk_x1) (by rw [(ln_s6 hk_x1)]; exact inb_eq q_7) dX7_takeOver_100 ?_
          refine R_iast hx hb hK hB (ky_s6 hk_x0) (by rw [(ln_s6 hk_x0)]; exact inb_eq q_7) dX7_takeOver_101 (fun H locs hB => ?_)
          refine lv_iinc (v := x2 + 1) (lv' := [(2, .int (x2 + 1)), (0, .ref (gL g x0)), (1, .ref (gL g x1))]) hx hb dX7_takeOver_102 hl (k := 2) rfl rfl (by decide) rfl (fun ls hl => ?_)
          refine lv_goto (tgt := 72) hx hb dX7_takeOver_105 (by decide) ?_
          obtain rfl := Option.some.inj h
          exact ih1 (x2 + 1) (sI σ1 (x0 + 6) x2.toNatClampNeg (hI σ1 (x1 + 6) x2.toNatClampNeg)) H locs ls hx1 hB (lv_sub hl [1, 2, 0] rfl)
  have hb_70 : ∀ (x0 : Nat) (x1 : Nat) (σ1 : Hp) (hk_x0 : ky x0 = 1) (hk_x1 : ky x1 = 1) (H : Heap) (locs : List Loc) (ls : Array Slot), f_X7_takeOver_b70 x0 x1 σ1 = some (r, τ) → tB g P σ1 A s.heap H locs → lv_has ls 3 [(0, .ref (gL g x0)), (1, .ref (gL g x1))] → WQ p l e { frames := 0, cells := 0, slots := 0, locals := 0 } s m args below meth c g P A none τ H locs (F0 m 70 ls []) := by
    intro x0 x1 σ1 hk_x0 hk_x1 H locs ls h hB hl
    unfold f_X7_takeOver_b70 at h
    refine lv_iconst (v := 0) hx hb dX7_takeOver_70 (by decide) ?_
    refine lv_istore_n (lv' := [(2, .int (0 : Int32)), (0, .ref (gL g x0)), (1, .ref (gL g x1))]) hx hb dX7_takeOver_71 rfl hl (by decide) rfl (fun ls hl => ?_)
    exact hL_72 x0 x1 hk_x0 hk_x1 fuel (0 : Int32) σ1 H locs ls h hB (lv_sub hl [1, 2, 0] rfl)
  have hL_34 : ∀ (x0 : Nat) (x1 : Nat) (hk_x0 : ky x0 = 1) (hk_x1 : ky x1 = 1) (n : Nat) (x2 : Int32) (σ1 : Hp) (H : Heap) (locs : List Loc) (ls : Array Slot), iter (f_X7_takeOver_s34 x0 x1) n (x2, σ1) = some (r, τ) → tB g P σ1 A s.heap H locs → lv_has ls 3 [(0, .ref (gL g x0)), (1, .ref (gL g x1)), (2, .int x2)] → WQ p l e { frames := 0, cells := 0, slots := 0, locals := 0 } s m args below meth c g P A none τ H locs (F0 m 34 ls []) := by
    intro x0 x1 hk_x0 hk_x1 n
    induction n with
    | zero =>
      intro x2 σ1 H locs ls h hB hl
      exact (iter_0 h).elim
    | succ n ih1 =>
      intro x2 σ1 H locs ls h hB hl
      replace h := iter_eq h; obtain ⟨z1, hh1, hx1⟩ := h
      have h : f_X7_takeOver_t34 x0 x1 x2 σ1 = some z1 := hh1
      clear hh1
      unfold f_X7_takeOver_t34 at h
      refine lv_iload_n hx hb dX7_takeOver_34 rfl (lv_at hl 2 rfl) ?_
      refine lv_aload_n hx hb dX7_takeOver_35 rfl (lv_at hl 0 rfl) ?_
      refine R_get (v := .ref (gL g (x0 + 3))) hx hb ht ui_X7 hown hK hB (ky_in _ (by rw [hk_x0]; decide)) (cell_1 hk_x0) rfl 4 (by decide) (ht _ tw55) (fun _ h9 => h9) rfl dX7_takeOver_36 ?_
      refine R_alenR hx hb (v := (6 : Int32)) hK hB (ky_s3 hk_x0) (by rw [(ln_s3 hk_x0)]; rfl) dX7_takeOver_39 ?_
      refine lv_icmp_ge (tgt := 70) hx hb dX7_takeOver_40 (by decide) (fun c_1 => ?_) (fun c_1 => ?_)
      · replace h := itp h c_1
        replace h := ex_eq h; obtain ⟨b1, h, hz1⟩ := h
        subst hz1
        have hz1 := (itk_inr hx1).symm
        subst hz1
        exact hb_70 x0 x1 σ1 hk_x0 hk_x1 H locs ls h hB (lv_sub hl [0, 1] rfl)
      · replace h := itn h c_1
        refine lv_iload_n hx hb dX7_takeOver_43 rfl (lv_at hl 2 rfl) ?_
        refine lv_aload_n hx hb dX7_takeOver_44 rfl (lv_at hl 1 rfl) ?_
        refine R_get (v := .ref (gL g (x1 + 3))) hx hb ht ui_X7 hown hK hB (ky_in _ (by rw [hk_x1]; decide)) (cell_1 hk_x1) rfl 4 (by decide) (ht _ tw55) (fun _ h9 => h9) rfl dX7_takeOver_45 ?_
        refine R_alenR hx hb (v := (6 : Int32)) hK hB (ky_s3 hk_x1) (by rw [(ln_s3 hk_x1)]; rfl) dX7_takeOver_48 ?_
        refine lv_icmp_ge (tgt := 70) hx hb dX7_takeOver_49 (by decide) (fun c_8 => ?_) (fun c_8 => ?_)
        · replace h := itp h c_8
          replace h := ex_eq h; obtain ⟨b1, h, hz1⟩ := h
          subst hz1
          have hz1 := (itk_inr hx1).symm
          subst hz1
          exact hb_70 x0 x1 σ1 hk_x0 hk_x1 H locs ls h hB (lv_sub hl [0, 1] rfl)
        · replace h := itn h c_8
          refine lv_aload_n hx hb dX7_takeOver_52 rfl (lv_at hl 0 rfl) ?_
          refine R_get (v := .ref (gL g (x0 + 3))) hx hb ht ui_X7 hown hK hB (ky_in _ (by rw [hk_x0]; decide)) (cell_1 hk_x0) rfl 4 (by decide) (ht _ tw55) (fun _ h9 => h9) rfl dX7_takeOver_53 ?_
          refine lv_iload_n hx hb dX7_takeOver_56 rfl (lv_at hl 2 rfl) ?_
          refine lv_aload_n hx hb dX7_takeOver_57 rfl (lv_at hl 1 rfl) ?_
          refine R_get (v := .ref (gL g (x1 + 3))) hx hb ht ui_X7 hown hK hB (ky_in _ (by rw [hk_x1]; decide)) (cell_1 hk_x1) rfl 4 (by decide) (ht _ tw55) (fun _ h9 => h9) rfl dX7_takeOver_58 ?_
          refine lv_iload_n hx hb dX7_takeOver_61 rfl (lv_at hl 2 rfl) ?_
          replace h := ck_eq h; obtain ⟨q_9, h⟩ := h
          refine R_aald hx hb hK hB (ky_s3 hk_x1) (by rw [(ln_s3 hk_x1)]; exact inb_eq q_9) dX7_takeOver_62 ?_
          replace h := ck_eq h; obtain ⟨q_10, h⟩ := h
          refine R_aast (v := (hR σ1 (x1 + 3) x2.toNatClampNeg)) hx hb hK hB (ky_s3 hk_x0) (by rw [(ln_s3 hk_x0)]; exact inb_eq q_9) q_10 dX7_takeOver_63 (fun H locs hB => ?_)
          refine lv_iinc (v := x2 + 1) (lv' := [(2, .int (x2 + 1)), (0, .ref (gL g x0)), (1, .ref (gL g x1))]) hx hb dX7_takeOver_64 hl (k := 2) rfl rfl (by decide) rfl (fun ls hl => ?_)
          refine lv_goto (tgt := 34) hx hb dX7_takeOver_67 (by decide) ?_
          obtain rfl := Option.some.inj h
          exact ih1 (x2 + 1) (sR σ1 (x0 + 3) x2.toNatClampNeg (hR σ1 (x1 + 3) x2.toNatClampNeg)) H locs ls hx1 hB (lv_sub hl [1, 2, 0] rfl)
  suffices hmain : ∀ (H : Heap) (locs : List Loc) (ls : Array Slot), tB g P σ A s.heap H locs → lv_has ls 3 [(0, .ref (gL g k0)), (1, .ref (gL g k1))] → WQ p l e { frames := 0, cells := 0, slots := 0, locals := 0 } s m args below meth c g P A none τ H locs (F0 m 0 ls []) from hmain _ _ ls0 hB0 hl0
  intro H locs ls hB hl
  unfold f_X7_takeOver at h
  refine lv_aload_n hx hb dX7_takeOver_0 rfl (lv_at hl 0 rfl) ?_
  refine lv_aload_n hx hb dX7_takeOver_1 rfl (lv_at hl 1 rfl) ?_
  refine R_get (v := .int (hI σ k1 0)) hx hb ht ui_X7 hown hK hB (ky_in _ (by rw [hk_k1]; decide)) (cell_1 hk_k1) rfl 0 (by decide) (ht _ tw37) (fun _ h9 => h9) rfl dX7_takeOver_2 ?_
  refine R_putI (v := (hI σ k1 0)) (ty := .int) hx hb ht ui_X7 tyX7 tyX7_ok nmX7 hown hK hB (ky_in _ (by rw [hk_k0]; decide)) (cell_1 hk_k0) rfl 0 (by decide) (ht _ tw37) (fun _ h9 => h9) rfl (by decide +kernel) rfl rfl (Nat.le_of_ble_eq_true rfl) (st1_0 hk_k0) dX7_takeOver_5 (fun H locs hB => ?_)
  refine lv_aload_n hx hb dX7_takeOver_8 rfl (lv_at hl 0 rfl) ?_
  refine lv_aload_n hx hb dX7_takeOver_9 rfl (lv_at hl 1 rfl) ?_
  refine R_get (v := .int (hI (sI σ k0 0 (hI σ k1 0)) k1 1)) hx hb ht ui_X7 hown hK hB (ky_in _ (by rw [hk_k1]; decide)) (cell_1 hk_k1) rfl 1 (by decide) (ht _ tw47) (fun _ h9 => h9) rfl dX7_takeOver_10 ?_
  refine R_putI (v := (hI (sI σ k0 0 (hI σ k1 0)) k1 1)) (ty := .int) hx hb ht ui_X7 tyX7 tyX7_ok nmX7 hown hK hB (ky_in _ (by rw [hk_k0]; decide)) (cell_1 hk_k0) rfl 1 (by decide) (ht _ tw47) (fun _ h9 => h9) rfl (by decide +kernel) rfl rfl (Nat.le_of_ble_eq_true rfl) (st1_1 hk_k0) dX7_takeOver_13 (fun H locs hB => ?_)
  refine lv_aload_n hx hb dX7_takeOver_16 rfl (lv_at hl 0 rfl) ?_
  refine lv_aload_n hx hb dX7_takeOver_17 rfl (lv_at hl 1 rfl) ?_
  refine R_get (v := .int (hI (sI (sI σ k0 0 (hI σ k1 0)) k0 1 (hI (sI σ k0 0 (hI σ k1 0)) k1 1)) k1 2)) hx hb ht ui_X7 hown hK hB (ky_in _ (by rw [hk_k1]; decide)) (cell_1 hk_k1) rfl 2 (by decide) (ht _ tw49) (fun _ h9 => h9) rfl dX7_takeOver_18 ?_
  refine R_putI (v := (hI (sI (sI σ k0 0 (hI σ k1 0)) k0 1 (hI (sI σ k0 0 (hI σ k1 0)) k1 1)) k1 2)) (ty := .int) hx hb ht ui_X7 tyX7 tyX7_ok nmX7 hown hK hB (ky_in _ (by rw [hk_k0]; decide)) (cell_1 hk_k0) rfl 2 (by decide) (ht _ tw49) (fun _ h9 => h9) rfl (by decide +kernel) rfl rfl (Nat.le_of_ble_eq_true rfl) (st1_2 hk_k0) dX7_takeOver_21 (fun H locs hB => ?_)
  refine lv_aload_n hx hb dX7_takeOver_24 rfl (lv_at hl 0 rfl) ?_
  refine lv_aload_n hx hb dX7_takeOver_25 rfl (lv_at hl 1 rfl) ?_
  refine R_get (v := .int (hI (sI (sI (sI σ k0 0 (hI σ k1 0)) k0 1 (hI (sI σ k0 0 (hI σ k1 0)) k1 1)) k0 2 (hI (sI (sI σ k0 0 (hI σ k1 0)) k0 1 (hI (sI σ k0 0 (hI σ k1 0)) k1 1)) k1 2)) k1 3)) hx hb ht ui_X7 hown hK hB (ky_in _ (by rw [hk_k1]; decide)) (cell_1 hk_k1) rfl 3 (by decide) (ht _ tw52) (fun _ h9 => h9) rfl dX7_takeOver_26 ?_
  refine R_putI (v := (hI (sI (sI (sI σ k0 0 (hI σ k1 0)) k0 1 (hI (sI σ k0 0 (hI σ k1 0)) k1 1)) k0 2 (hI (sI (sI σ k0 0 (hI σ k1 0)) k0 1 (hI (sI σ k0 0 (hI σ k1 0)) k1 1)) k1 2)) k1 3)) (ty := .int) hx hb ht ui_X7 tyX7 tyX7_ok nmX7 hown hK hB (ky_in _ (by rw [hk_k0]; decide)) (cell_1 hk_k0) rfl 3 (by decide) (ht _ tw52) (fun _ h9 => h9) rfl (by decide +kernel) rfl rfl (Nat.le_of_ble_eq_true rfl) (st1_3 hk_k0) dX7_takeOver_29 (fun H locs hB => ?_)
  refine lv_iconst (v := 0) hx hb dX7_takeOver_32 (by decide) ?_
  refine lv_istore_n (lv' := [(2, .int (0 : Int32)), (0, .ref (gL g k0)), (1, .ref (gL g k1))]) hx hb dX7_takeOver_33 rfl hl (by decide) rfl (fun ls hl => ?_)
  exact hL_34 k0 k1 hk_k0 hk_k1 fuel (0 : Int32) (sI (sI (sI (sI σ k0 0 (hI σ k1 0)) k0 1 (hI (sI σ k0 0 (hI σ k1 0)) k1 1)) k0 2 (hI (sI (sI σ k0 0 (hI σ k1 0)) k0 1 (hI (sI σ k0 0 (hI σ k1 0)) k1 1)) k1 2)) k0 3 (hI (sI (sI (sI σ k0 0 (hI σ k1 0)) k0 1 (hI (sI σ k0 0 (hI σ k1 0)) k1 1)) k0 2 (hI (sI (sI σ k0 0 (hI σ k1 0)) k0 1 (hI (sI σ k0 0 (hI σ k1 0)) k1 1)) k1 2)) k1 3)) H locs ls h hB (lv_sub hl [1, 2, 0] rfl)
