def f_X1_turnedOf_t15 (x2 : Int32) (x3 : Int64) (x5 : Int64) (x7 : Int32) (σ1 : Hp) : Option ((Int64 × Int64 × Int32 × Hp) ⊕ (Int64 × Hp)) := if (64 : Int32) ≤ x7 then ex (some (x3, σ1)) else if (lg_cmp x5 (0 : Int64)) ≤ 0 then ex (some (x3, σ1)) else ck (¬ x2.toInt64 = 0) (some (.inl (((x3 * x2.toInt64) + (x5 - x5 / x2.toInt64 * x2.toInt64)), (x5 / x2.toInt64), (x7 + 1), σ1)))
def f_X1_turnedOf_s15 (x2 : Int32) (v : (Int64 × Int64 × Int32 × Hp)) : Option ((Int64 × Int64 × Int32 × Hp) ⊕ (Int64 × Hp)) := f_X1_turnedOf_t15 x2 v.1 v.2.1 v.2.2.1 v.2.2.2
def f_X1_turnedOf (a0 : Int64) (a2 : Int32) (σ : Hp) : Option (Int64 × Hp) := if (2 : Int32) ≤ a2 then iter (f_X1_turnedOf_s15 a2) fuel ((0 : Int64), a0, (0 : Int32), σ) else some (a0, σ)
set_option maxHeartbeats 4000000 in
set_option maxRecDepth 100000 in
theorem c_X1_turnedOf (l : Launch) (g : tG) (P : Nat → Nat) (σ : Hp) (a0 : Int64) (a2 : Int32) (sz : Nat) {r : Int64} {τ : Hp} (h : f_X1_turnedOf a0 a2 σ = some (r, τ)) : Met l yX1_turnedOf (Cond.code yX1_turnedOf cX1_turnedOf 8 (some .long) :: tblG) ({ frames := 0, cells := 0, slots := 0, locals := 0 }) (va_Pc [.long a0, .int a2] (tPre g P σ sz)) (tQ (some (.long r)) (tPost g P τ (va_A (wC g P σ) sz)) (va_A (wC g P σ) sz)) 0 0 (va_A (wC g P σ) sz) := by
  refine T_start (B := fun A => tPost g P τ A) (by decide) (Nat.le_of_ble_eq_true rfl) ?_
  intro p e s m args below meth c ls0 A hx hb hml hr hown hlocks ht hnm hK hZ hA hB0 hl0
  have hL_15 : ∀ (x2 : Int32) (n : Nat) (x3 : Int64) (x5 : Int64) (x7 : Int32) (σ1 : Hp) (H : Heap) (locs : List Loc) (ls : Array Slot), iter (f_X1_turnedOf_s15 x2) n (x3, x5, x7, σ1) = some (r, τ) → tB g P σ1 A s.heap H locs → lv_has ls 8 [(2, .int x2), (3, .long x3), (5, .long x5), (7, .int x7)] → WQ p l e { frames := 0, cells := 0, slots := 0, locals := 0 } s m args below meth c g P A (some (.long r)) τ H locs (F0 m 15 ls []) := by
    intro x2 n
    induction n with
    | zero =>
      intro x3 x5 x7 σ1 H locs ls h hB hl
      exact (iter_0 h).elim
    | succ n ih1 =>
      intro x3 x5 x7 σ1 H locs ls h hB hl
      replace h := iter_eq h; obtain ⟨z1, hh1, hx1⟩ := h
      have h : f_X1_turnedOf_t15 x2 x3 x5 x7 σ1 = some z1 := hh1
      clear hh1
      unfold f_X1_turnedOf_t15 at h
      refine lv_iload hx hb dX1_turnedOf_15 (lv_at hl 3 rfl) ?_
      refine lv_bipush (v := 64) hx hb dX1_turnedOf_17 (by decide) ?_
      refine lv_icmp_ge (tgt := 53) hx hb dX1_turnedOf_19 (by decide) (fun c_4 => ?_) (fun c_4 => ?_)
      · replace h := itp h c_4
        replace h := ex_eq h; obtain ⟨b1, h, hz1⟩ := h
        subst hz1
        have hz1 := (itk_inr hx1).symm
        subst hz1
        refine lv_lload_n hx hb dX1_turnedOf_53 rfl (lv_at hl 1 rfl) ?_
        obtain ⟨rfl, rfl⟩ := Prod.mk.inj (Option.some.inj h)
        exact W.lret hx hb hr (R_end hB) hB.2.2.2.2 dX1_turnedOf_54
      · replace h := itn h c_4
        refine lv_lload hx hb dX1_turnedOf_22 (lv_at hl 2 rfl) ?_
        refine lv_lconst (v := 0) hx hb dX1_turnedOf_24 (by decide) ?_
        refine W.lcmp hx hb dX1_turnedOf_25 ?_
        refine lv_if_le (tgt := 53) hx hb dX1_turnedOf_26 (by decide) (fun c_5 => ?_) (fun c_5 => ?_)
        · replace h := itp h c_5
          replace h := ex_eq h; obtain ⟨b1, h, hz1⟩ := h
          subst hz1
          have hz1 := (itk_inr hx1).symm
          subst hz1
          refine lv_lload_n hx hb dX1_turnedOf_53 rfl (lv_at hl 1 rfl) ?_
          obtain ⟨rfl, rfl⟩ := Prod.mk.inj (Option.some.inj h)
          exact W.lret hx hb hr (R_end hB) hB.2.2.2.2 dX1_turnedOf_54
        · replace h := itn h c_5
          refine lv_lload_n hx hb dX1_turnedOf_29 rfl (lv_at hl 1 rfl) ?_
          refine lv_iload_n hx hb dX1_turnedOf_30 rfl (lv_at hl 0 rfl) ?_
          refine lv_i2l (v := x2.toInt64) hx hb dX1_turnedOf_31 rfl ?_
          refine lv_lmul hx hb dX1_turnedOf_32 ?_
          refine lv_lload hx hb dX1_turnedOf_33 (lv_at hl 2 rfl) ?_
          refine lv_iload_n hx hb dX1_turnedOf_35 rfl (lv_at hl 0 rfl) ?_
          refine lv_i2l (v := x2.toInt64) hx hb dX1_turnedOf_36 rfl ?_
          replace h := ck_eq h; obtain ⟨q_6, h⟩ := h
          refine lv_lrem hx hb dX1_turnedOf_37 q_6 ?_
          refine lv_ladd hx hb dX1_turnedOf_38 ?_
          refine lv_lstore_n (lv' := [(3, .long ((x3 * x2.toInt64) + (x5 - x5 / x2.toInt64 * x2.toInt64))), (2, .int x2), (5, .long x5), (7, .int x7)]) hx hb dX1_turnedOf_39 rfl hl (by decide) rfl (fun ls hl => ?_)
          refine lv_lload hx hb dX1_turnedOf_40 (lv_at hl 2 rfl) ?_
          refine lv_iload_n hx hb dX1_turnedOf_42 rfl (lv_at hl 1 rfl) ?_
          refine lv_i2l (v := x2.toInt64) hx hb dX1_turnedOf_43 rfl ?_
          refine lv_ldiv hx hb dX1_turnedOf_44 q_6 ?_
          refine lv_lstore (lv' := [(5, .long (x5 / x2.toInt64)), (3, .long ((x3 * x2.toInt64) + (x5 - x5 / x2.toInt64 * x2.toInt64))), (2, .int x2), (7, .int x7)]) hx hb dX1_turnedOf_45 hl (by decide) rfl (fun ls hl => ?_)
          refine lv_iinc (v := x7 + 1) (lv' := [(7, .int (x7 + 1)), (5, .long (x5 / x2.toInt64)), (3, .long ((x3 * x2.toInt64) + (x5 - x5 / x2.toInt64 * x2.toInt64))), (2, .int x2)]) hx hb dX1_turnedOf_47 hl (k := 3) rfl rfl (by decide) rfl (fun ls hl => ?_)
          refine lv_goto (tgt := 15) hx hb dX1_turnedOf_50 (by decide) ?_
          obtain rfl := Option.some.inj h
          exact ih1 ((x3 * x2.toInt64) + (x5 - x5 / x2.toInt64 * x2.toInt64)) (x5 / x2.toInt64) (x7 + 1) σ1 H locs ls hx1 hB (lv_sub hl [3, 2, 1, 0] rfl)
  suffices hmain : ∀ (H : Heap) (locs : List Loc) (ls : Array Slot), tB g P σ A s.heap H locs → lv_has ls 8 [(0, .long a0), (2, .int a2)] → WQ p l e { frames := 0, cells := 0, slots := 0, locals := 0 } s m args below meth c g P A (some (.long r)) τ H locs (F0 m 0 ls []) from hmain _ _ ls0 hB0 hl0
  intro H locs ls hB hl
  unfold f_X1_turnedOf at h
  refine lv_iload_n hx hb dX1_turnedOf_0 rfl (lv_at hl 1 rfl) ?_
  refine lv_iconst (v := 2) hx hb dX1_turnedOf_1 (by decide) ?_
  refine lv_icmp_ge (tgt := 7) hx hb dX1_turnedOf_2 (by decide) (fun c_3 => ?_) (fun c_3 => ?_)
  · replace h := itp h c_3
    refine lv_lconst (v := 0) hx hb dX1_turnedOf_7 (by decide) ?_
    refine lv_lstore_n (lv' := [(3, .long (0 : Int64)), (0, .long a0), (2, .int a2)]) hx hb dX1_turnedOf_8 rfl hl (by decide) rfl (fun ls hl => ?_)
    refine lv_lload_n hx hb dX1_turnedOf_9 rfl (lv_at hl 1 rfl) ?_
    refine lv_lstore (lv' := [(5, .long a0), (3, .long (0 : Int64)), (0, .long a0), (2, .int a2)]) hx hb dX1_turnedOf_10 hl (by decide) rfl (fun ls hl => ?_)
    refine lv_iconst (v := 0) hx hb dX1_turnedOf_12 (by decide) ?_
    refine lv_istore (lv' := [(7, .int (0 : Int32)), (5, .long a0), (3, .long (0 : Int64)), (0, .long a0), (2, .int a2)]) hx hb dX1_turnedOf_13 hl (by decide) rfl (fun ls hl => ?_)
    exact hL_15 a2 fuel (0 : Int64) a0 (0 : Int32) σ H locs ls h hB (lv_sub hl [4, 2, 1, 0] rfl)
  · replace h := itn h c_3
    refine lv_lload_n hx hb dX1_turnedOf_5 rfl (lv_at hl 0 rfl) ?_
    obtain ⟨rfl, rfl⟩ := Prod.mk.inj (Option.some.inj h)
    exact W.lret hx hb hr (R_end hB) hB.2.2.2.2 dX1_turnedOf_6
def f_X1_howMany_t15 (x2 : Int32) (x3 : Int32) (x4 : Int64) (σ1 : Hp) : Option ((Int32 × Int64 × Hp) ⊕ (Int32 × Hp)) := if (64 : Int32) ≤ x3 then ex (some (x3, σ1)) else if (lg_cmp x4 (0 : Int64)) ≤ 0 then ex (some (x3, σ1)) else ck (¬ x2.toInt64 = 0) (some (.inl ((x3 + 1), (x4 / x2.toInt64), σ1)))
def f_X1_howMany_s15 (x2 : Int32) (v : (Int32 × Int64 × Hp)) : Option ((Int32 × Int64 × Hp) ⊕ (Int32 × Hp)) := f_X1_howMany_t15 x2 v.1 v.2.1 v.2.2
def f_X1_howMany (a0 : Int64) (a2 : Int32) (σ : Hp) : Option (Int32 × Hp) := if (2 : Int32) ≤ a2 then ck (¬ a2.toInt64 = 0) (iter (f_X1_howMany_s15 a2) fuel ((1 : Int32), (a0 / a2.toInt64), σ)) else some ((1 : Int32), σ)
set_option maxHeartbeats 4000000 in
set_option maxRecDepth 100000 in
theorem c_X1_howMany (l : Launch) (g : tG) (P : Nat → Nat) (σ : Hp) (a0 : Int64) (a2 : Int32) (sz : Nat) {r : Int32} {τ : Hp} (h : f_X1_howMany a0 a2 σ = some (r, τ)) : Met l yX1_howMany (Cond.code yX1_howMany cX1_howMany 6 (some .int) :: tblG) ({ frames := 0, cells := 0, slots := 0, locals := 0 }) (va_Pc [.long a0, .int a2] (tPre g P σ sz)) (tQ (some (.int r)) (tPost g P τ (va_A (wC g P σ) sz)) (va_A (wC g P σ) sz)) 0 0 (va_A (wC g P σ) sz) := by
  refine T_start (B := fun A => tPost g P τ A) (by decide) (Nat.le_of_ble_eq_true rfl) ?_
  intro p e s m args below meth c ls0 A hx hb hml hr hown hlocks ht hnm hK hZ hA hB0 hl0
  have hL_15 : ∀ (x2 : Int32) (n : Nat) (x3 : Int32) (x4 : Int64) (σ1 : Hp) (H : Heap) (locs : List Loc) (ls : Array Slot), iter (f_X1_howMany_s15 x2) n (x3, x4, σ1) = some (r, τ) → tB g P σ1 A s.heap H locs → lv_has ls 6 [(2, .int x2), (3, .int x3), (4, .long x4)] → WQ p l e { frames := 0, cells := 0, slots := 0, locals := 0 } s m args below meth c g P A (some (.int r)) τ H locs (F0 m 15 ls []) := by
    intro x2 n
    induction n with
    | zero =>
      intro x3 x4 σ1 H locs ls h hB hl
      exact (iter_0 h).elim
    | succ n ih1 =>
      intro x3 x4 σ1 H locs ls h hB hl
      replace h := iter_eq h; obtain ⟨z1, hh1, hx1⟩ := h
      have h : f_X1_howMany_t15 x2 x3 x4 σ1 = some z1 := hh1
      clear hh1
      unfold f_X1_howMany_t15 at h
      refine lv_iload_n hx hb dX1_howMany_15 rfl (lv_at hl 1 rfl) ?_
      refine lv_bipush (v := 64) hx hb dX1_howMany_16 (by decide) ?_
      refine lv_icmp_ge (tgt := 41) hx hb dX1_howMany_18 (by decide) (fun c_5 => ?_) (fun c_5 => ?_)
      · replace h := itp h c_5
        replace h := ex_eq h; obtain ⟨b1, h, hz1⟩ := h
        subst hz1
        have hz1 := (itk_inr hx1).symm
        subst hz1
        refine lv_iload_n hx hb dX1_howMany_41 rfl (lv_at hl 1 rfl) ?_
        obtain ⟨rfl, rfl⟩ := Prod.mk.inj (Option.some.inj h)
        exact W.iret hx hb hr (R_end hB) hB.2.2.2.2 dX1_howMany_42
      · replace h := itn h c_5
        refine lv_lload hx hb dX1_howMany_21 (lv_at hl 2 rfl) ?_
        refine lv_lconst (v := 0) hx hb dX1_howMany_23 (by decide) ?_
        refine W.lcmp hx hb dX1_howMany_24 ?_
        refine lv_if_le (tgt := 41) hx hb dX1_howMany_25 (by decide) (fun c_6 => ?_) (fun c_6 => ?_)
        · replace h := itp h c_6
          replace h := ex_eq h; obtain ⟨b1, h, hz1⟩ := h
          subst hz1
          have hz1 := (itk_inr hx1).symm
          subst hz1
          refine lv_iload_n hx hb dX1_howMany_41 rfl (lv_at hl 1 rfl) ?_
          obtain ⟨rfl, rfl⟩ := Prod.mk.inj (Option.some.inj h)
          exact W.iret hx hb hr (R_end hB) hB.2.2.2.2 dX1_howMany_42
        · replace h := itn h c_6
          refine lv_lload hx hb dX1_howMany_28 (lv_at hl 2 rfl) ?_
          refine lv_iload_n hx hb dX1_howMany_30 rfl (lv_at hl 0 rfl) ?_
          refine lv_i2l (v := x2.toInt64) hx hb dX1_howMany_31 rfl ?_
          replace h := ck_eq h; obtain ⟨q_7, h⟩ := h
          refine lv_ldiv hx hb dX1_howMany_32 q_7 ?_
          refine lv_lstore (lv' := [(4, .long (x4 / x2.toInt64)), (2, .int x2), (3, .int x3)]) hx hb dX1_howMany_33 hl (by decide) rfl (fun ls hl => ?_)
          refine lv_iinc (v := x3 + 1) (lv' := [(3, .int (x3 + 1)), (4, .long (x4 / x2.toInt64)), (2, .int x2)]) hx hb dX1_howMany_35 hl (k := 2) rfl rfl (by decide) rfl (fun ls hl => ?_)
          refine lv_goto (tgt := 15) hx hb dX1_howMany_38 (by decide) ?_
          obtain rfl := Option.some.inj h
          exact ih1 (x3 + 1) (x4 / x2.toInt64) σ1 H locs ls hx1 hB (lv_sub hl [2, 0, 1] rfl)
  suffices hmain : ∀ (H : Heap) (locs : List Loc) (ls : Array Slot), tB g P σ A s.heap H locs → lv_has ls 6 [(0, .long a0), (2, .int a2)] → WQ p l e { frames := 0, cells := 0, slots := 0, locals := 0 } s m args below meth c g P A (some (.int r)) τ H locs (F0 m 0 ls []) from hmain _ _ ls0 hB0 hl0
  intro H locs ls hB hl
  unfold f_X1_howMany at h
  refine lv_iload_n hx hb dX1_howMany_0 rfl (lv_at hl 1 rfl) ?_
  refine lv_iconst (v := 2) hx hb dX1_howMany_1 (by decide) ?_
  refine lv_icmp_ge (tgt := 7) hx hb dX1_howMany_2 (by decide) (fun c_3 => ?_) (fun c_3 => ?_)
  · replace h := itp h c_3
    refine lv_iconst (v := 1) hx hb dX1_howMany_7 (by decide) ?_
    refine lv_istore_n (lv' := [(3, .int (1 : Int32)), (0, .long a0), (2, .int a2)]) hx hb dX1_howMany_8 rfl hl (by decide) rfl (fun ls hl => ?_)
    refine lv_lload_n hx hb dX1_howMany_9 rfl (lv_at hl 1 rfl) ?_
    refine lv_iload_n hx hb dX1_howMany_10 rfl (lv_at hl 2 rfl) ?_
    refine lv_i2l (v := a2.toInt64) hx hb dX1_howMany_11 rfl ?_
    replace h := ck_eq h; obtain ⟨q_4, h⟩ := h
    refine lv_ldiv hx hb dX1_howMany_12 q_4 ?_
    refine lv_lstore (lv' := [(4, .long (a0 / a2.toInt64)), (3, .int (1 : Int32)), (0, .long a0), (2, .int a2)]) hx hb dX1_howMany_13 hl (by decide) rfl (fun ls hl => ?_)
    exact hL_15 a2 fuel (1 : Int32) (a0 / a2.toInt64) σ H locs ls h hB (lv_sub hl [3, 1, 0] rfl)
  · replace h := itn h c_3
    refine lv_iconst (v := 1) hx hb dX1_howMany_5 (by decide) ?_
    obtain ⟨rfl, rfl⟩ := Prod.mk.inj (Option.some.inj h)
    exact W.iret hx hb hr (R_end hB) hB.2.2.2.2 dX1_howMany_6
def f_X1_together_t44 (x2 : Int32) (x3 : Int32) (x4 : Int64) (x6 : Int64) (x8 : Int32) (x9 : Int64) (x11 : Int64) (x13 : Int32) (σ1 : Hp) : Option ((Int64 × Int32 × Hp) ⊕ ((Int64 × Int64 × Int32 × Hp) ⊕ (Int64 × Hp))) := if x3 ≤ x13 then ex (ck (¬ x2.toInt64 = 0) (some (.inl ((x4 + x11), (x6 / x2.toInt64), (x8 + 1), σ1)))) else some (.inl ((x11 * x9), (x13 + 1), σ1))
def f_X1_together_s44 (x2 : Int32) (x3 : Int32) (x4 : Int64) (x6 : Int64) (x8 : Int32) (x9 : Int64) (v : (Int64 × Int32 × Hp)) : Option ((Int64 × Int32 × Hp) ⊕ ((Int64 × Int64 × Int32 × Hp) ⊕ (Int64 × Hp))) := f_X1_together_t44 x2 x3 x4 x6 x8 x9 v.1 v.2.1 v.2.2
def f_X1_together_t16 (x2 : Int32) (x3 : Int32) (x4 : Int64) (x6 : Int64) (x8 : Int32) (σ1 : Hp) : Option ((Int64 × Int64 × Int32 × Hp) ⊕ (Int64 × Hp)) := if (64 : Int32) ≤ x8 then ex (some (x4, σ1)) else if (lg_cmp x6 (0 : Int64)) ≤ 0 then ex (some (x4, σ1)) else ck (¬ x2.toInt64 = 0) (iter (f_X1_together_s44 x2 x3 x4 x6 x8 (x6 - x6 / x2.toInt64 * x2.toInt64)) fuel ((x6 - x6 / x2.toInt64 * x2.toInt64), (1 : Int32), σ1))
def f_X1_together_s16 (x2 : Int32) (x3 : Int32) (v : (Int64 × Int64 × Int32 × Hp)) : Option ((Int64 × Int64 × Int32 × Hp) ⊕ (Int64 × Hp)) := f_X1_together_t16 x2 x3 v.1 v.2.1 v.2.2.1 v.2.2.2
def f_X1_together (a0 : Int64) (a2 : Int32) (a3 : Int32) (σ : Hp) : Option (Int64 × Hp) := if (2 : Int32) ≤ a2 then iter (f_X1_together_s16 a2 a3) fuel ((0 : Int64), a0, (0 : Int32), σ) else some ((0 : Int64), σ)
set_option maxHeartbeats 4000000 in
set_option maxRecDepth 100000 in
theorem c_X1_together (l : Launch) (g : tG) (P : Nat → Nat) (σ : Hp) (a0 : Int64) (a2 : Int32) (a3 : Int32) (sz : Nat) {r : Int64} {τ : Hp} (h : f_X1_together a0 a2 a3 σ = some (r, τ)) : Met l yX1_together (Cond.code yX1_together cX1_together 14 (some .long) :: tblG) ({ frames := 0, cells := 0, slots := 0, locals := 0 }) (va_Pc [.long a0, .int a2, .int a3] (tPre g P σ sz)) (tQ (some (.long r)) (tPost g P τ (va_A (wC g P σ) sz)) (va_A (wC g P σ) sz)) 0 0 (va_A (wC g P σ) sz) := by
  refine T_start (B := fun A => tPost g P τ A) (by decide) (Nat.le_of_ble_eq_true rfl) ?_
  intro p e s m args below meth c ls0 A hx hb hml hr hown hlocks ht hnm hK hZ hA hB0 hl0
  have hL_16 : ∀ (x2 : Int32) (x3 : Int32) (n : Nat) (x4 : Int64) (x6 : Int64) (x8 : Int32) (σ1 : Hp) (H : Heap) (locs : List Loc) (ls : Array Slot), iter (f_X1_together_s16 x2 x3) n (x4, x6, x8, σ1) = some (r, τ) → tB g P σ1 A s.heap H locs → lv_has ls 14 [(2, .int x2), (3, .int x3), (4, .long x4), (6, .long x6), (8, .int x8)] → WQ p l e { frames := 0, cells := 0, slots := 0, locals := 0 } s m args below meth c g P A (some (.long r)) τ H locs (F0 m 16 ls []) := by
    intro x2 x3 n
    induction n with
    | zero =>
      intro x4 x6 x8 σ1 H locs ls h hB hl
      exact (iter_0 h).elim
    | succ n ih1 =>
      intro x4 x6 x8 σ1 H locs ls h hB hl
      replace h := iter_eq h; obtain ⟨z1, hh1, hx1⟩ := h
      have hL_44 : ∀ (x4 : Int64) (x6 : Int64) (x8 : Int32) (x9 : Int64) (n : Nat) (x11 : Int64) (x13 : Int32) (σ1 : Hp) (H : Heap) (locs : List Loc) (ls : Array Slot), iter (f_X1_together_s44 x2 x3 x4 x6 x8 x9) n (x11, x13, σ1) = some z1 → tB g P σ1 A s.heap H locs → lv_has ls 14 [(2, .int x2), (3, .int x3), (4, .long x4), (6, .long x6), (8, .int x8), (9, .long x9), (11, .long x11), (13, .int x13)] → WQ p l e { frames := 0, cells := 0, slots := 0, locals := 0 } s m args below meth c g P A (some (.long r)) τ H locs (F0 m 44 ls []) := by
        intro x4 x6 x8 x9 n
        induction n with
        | zero =>
          intro x11 x13 σ1 H locs ls h hB hl
          exact (iter_0 h).elim
        | succ n ih2 =>
          intro x11 x13 σ1 H locs ls h hB hl
          replace h := iter_eq h; obtain ⟨z2, hh2, hx2⟩ := h
          have h : f_X1_together_t44 x2 x3 x4 x6 x8 x9 x11 x13 σ1 = some z2 := hh2
          clear hh2
          unfold f_X1_together_t44 at h
          refine lv_iload hx hb dX1_together_44 (lv_at hl 7 rfl) ?_
          refine lv_iload_n hx hb dX1_together_46 rfl (lv_at hl 1 rfl) ?_
          refine lv_icmp_ge (tgt := 63) hx hb dX1_together_47 (by decide) (fun c_7 => ?_) (fun c_7 => ?_)
          · replace h := itp h c_7
            replace h := ex_eq h; obtain ⟨b2, h, hz2⟩ := h
            subst hz2
            have hz2 := (itk_inr hx2).symm
            subst hz2
            refine lv_lload hx hb dX1_together_63 (lv_at hl 2 rfl) ?_
            refine lv_lload hx hb dX1_together_65 (lv_at hl 6 rfl) ?_
            refine lv_ladd hx hb dX1_together_67 ?_
            refine lv_lstore (lv' := [(4, .long (x4 + x11)), (2, .int x2), (3, .int x3), (6, .long x6), (8, .int x8), (9, .long x9), (11, .long x11), (13, .int x13)]) hx hb dX1_together_68 hl (by decide) rfl (fun ls hl => ?_)
            refine lv_lload hx hb dX1_together_70 (lv_at hl 3 rfl) ?_
            refine lv_iload_n hx hb dX1_together_72 rfl (lv_at hl 1 rfl) ?_
            refine lv_i2l (v := x2.toInt64) hx hb dX1_together_73 rfl ?_
            replace h := ck_eq h; obtain ⟨q_8, h⟩ := h
            refine lv_ldiv hx hb dX1_together_74 q_8 ?_
            refine lv_lstore (lv' := [(6, .long (x6 / x2.toInt64)), (4, .long (x4 + x11)), (2, .int x2), (3, .int x3), (8, .int x8), (9, .long x9), (11, .long x11), (13, .int x13)]) hx hb dX1_together_75 hl (by decide) rfl (fun ls hl => ?_)
            refine lv_iinc (v := x8 + 1) (lv' := [(8, .int (x8 + 1)), (6, .long (x6 / x2.toInt64)), (4, .long (x4 + x11)), (2, .int x2), (3, .int x3), (9, .long x9), (11, .long x11), (13, .int x13)]) hx hb dX1_together_77 hl (k := 4) rfl rfl (by decide) rfl (fun ls hl => ?_)
            refine lv_goto (tgt := 16) hx hb dX1_together_80 (by decide) ?_
            obtain rfl := Option.some.inj h
            exact ih1 (x4 + x11) (x6 / x2.toInt64) (x8 + 1) σ1 H locs ls hx1 hB (lv_sub hl [3, 4, 2, 1, 0] rfl)
          · replace h := itn h c_7
            refine lv_lload hx hb dX1_together_50 (lv_at hl 6 rfl) ?_
            refine lv_lload hx hb dX1_together_52 (lv_at hl 5 rfl) ?_
            refine lv_lmul hx hb dX1_together_54 ?_
            refine lv_lstore (lv' := [(11, .long (x11 * x9)), (2, .int x2), (3, .int x3), (4, .long x4), (6, .long x6), (8, .int x8), (9, .long x9), (13, .int x13)]) hx hb dX1_together_55 hl (by decide) rfl (fun ls hl => ?_)
            refine lv_iinc (v := x13 + 1) (lv' := [(13, .int (x13 + 1)), (11, .long (x11 * x9)), (2, .int x2), (3, .int x3), (4, .long x4), (6, .long x6), (8, .int x8), (9, .long x9)]) hx hb dX1_together_57 hl (k := 7) rfl rfl (by decide) rfl (fun ls hl => ?_)
            refine lv_goto (tgt := 44) hx hb dX1_together_60 (by decide) ?_
            obtain rfl := Option.some.inj h
            exact ih2 (x11 * x9) (x13 + 1) σ1 H locs ls hx2 hB (lv_sub hl [2, 3, 4, 5, 6, 7, 1, 0] rfl)
      have h : f_X1_together_t16 x2 x3 x4 x6 x8 σ1 = some z1 := hh1
      clear hh1
      unfold f_X1_together_t16 at h
      refine lv_iload hx hb dX1_together_16 (lv_at hl 4 rfl) ?_
      refine lv_bipush (v := 64) hx hb dX1_together_18 (by decide) ?_
      refine lv_icmp_ge (tgt := 83) hx hb dX1_together_20 (by decide) (fun c_4 => ?_) (fun c_4 => ?_)
      · replace h := itp h c_4
        replace h := ex_eq h; obtain ⟨b1, h, hz1⟩ := h
        subst hz1
        have hz1 := (itk_inr hx1).symm
        subst hz1
        refine lv_lload hx hb dX1_together_83 (lv_at hl 2 rfl) ?_
        obtain ⟨rfl, rfl⟩ := Prod.mk.inj (Option.some.inj h)
        exact W.lret hx hb hr (R_end hB) hB.2.2.2.2 dX1_together_85
      · replace h := itn h c_4
        refine lv_lload hx hb dX1_together_23 (lv_at hl 3 rfl) ?_
        refine lv_lconst (v := 0) hx hb dX1_together_25 (by decide) ?_
        refine W.lcmp hx hb dX1_together_26 ?_
        refine lv_if_le (tgt := 83) hx hb dX1_together_27 (by decide) (fun c_5 => ?_) (fun c_5 => ?_)
        · replace h := itp h c_5
          replace h := ex_eq h; obtain ⟨b1, h, hz1⟩ := h
          subst hz1
          have hz1 := (itk_inr hx1).symm
          subst hz1
          refine lv_lload hx hb dX1_together_83 (lv_at hl 2 rfl) ?_
          obtain ⟨rfl, rfl⟩ := Prod.mk.inj (Option.some.inj h)
          exact W.lret hx hb hr (R_end hB) hB.2.2.2.2 dX1_together_85
        · replace h := itn h c_5
          refine lv_lload hx hb dX1_together_30 (lv_at hl 3 rfl) ?_
          refine lv_iload_n hx hb dX1_together_32 rfl (lv_at hl 0 rfl) ?_
          refine lv_i2l (v := x2.toInt64) hx hb dX1_together_33 rfl ?_
          replace h := ck_eq h; obtain ⟨q_6, h⟩ := h
          refine lv_lrem hx hb dX1_together_34 q_6 ?_
          refine lv_lstore (lv' := [(9, .long (x6 - x6 / x2.toInt64 * x2.toInt64)), (2, .int x2), (3, .int x3), (4, .long x4), (6, .long x6), (8, .int x8)]) hx hb dX1_together_35 hl (by decide) rfl (fun ls hl => ?_)
          refine lv_lload hx hb dX1_together_37 (lv_at hl 0 rfl) ?_
          refine lv_lstore (lv' := [(11, .long (x6 - x6 / x2.toInt64 * x2.toInt64)), (9, .long (x6 - x6 / x2.toInt64 * x2.toInt64)), (2, .int x2), (3, .int x3), (4, .long x4), (6, .long x6), (8, .int x8)]) hx hb dX1_together_39 hl (by decide) rfl (fun ls hl => ?_)
          refine lv_iconst (v := 1) hx hb dX1_together_41 (by decide) ?_
          refine lv_istore (lv' := [(13, .int (1 : Int32)), (11, .long (x6 - x6 / x2.toInt64 * x2.toInt64)), (9, .long (x6 - x6 / x2.toInt64 * x2.toInt64)), (2, .int x2), (3, .int x3), (4, .long x4), (6, .long x6), (8, .int x8)]) hx hb dX1_together_42 hl (by decide) rfl (fun ls hl => ?_)
          exact hL_44 x4 x6 x8 (x6 - x6 / x2.toInt64 * x2.toInt64) fuel (x6 - x6 / x2.toInt64 * x2.toInt64) (1 : Int32) σ1 H locs ls h hB (lv_sub hl [3, 4, 5, 6, 7, 2, 1, 0] rfl)
  suffices hmain : ∀ (H : Heap) (locs : List Loc) (ls : Array Slot), tB g P σ A s.heap H locs → lv_has ls 14 [(0, .long a0), (2, .int a2), (3, .int a3)] → WQ p l e { frames := 0, cells := 0, slots := 0, locals := 0 } s m args below meth c g P A (some (.long r)) τ H locs (F0 m 0 ls []) from hmain _ _ ls0 hB0 hl0
  intro H locs ls hB hl
  unfold f_X1_together at h
  refine lv_iload_n hx hb dX1_together_0 rfl (lv_at hl 1 rfl) ?_
  refine lv_iconst (v := 2) hx hb dX1_together_1 (by decide) ?_
  refine lv_icmp_ge (tgt := 7) hx hb dX1_together_2 (by decide) (fun c_3 => ?_) (fun c_3 => ?_)
  · replace h := itp h c_3
    refine lv_lconst (v := 0) hx hb dX1_together_7 (by decide) ?_
    refine lv_lstore (lv' := [(4, .long (0 : Int64)), (0, .long a0), (2, .int a2), (3, .int a3)]) hx hb dX1_together_8 hl (by decide) rfl (fun ls hl => ?_)
    refine lv_lload_n hx hb dX1_together_10 rfl (lv_at hl 1 rfl) ?_
    refine lv_lstore (lv' := [(6, .long a0), (4, .long (0 : Int64)), (0, .long a0), (2, .int a2), (3, .int a3)]) hx hb dX1_together_11 hl (by decide) rfl (fun ls hl => ?_)
    refine lv_iconst (v := 0) hx hb dX1_together_13 (by decide) ?_
    refine lv_istore (lv' := [(8, .int (0 : Int32)), (6, .long a0), (4, .long (0 : Int64)), (0, .long a0), (2, .int a2), (3, .int a3)]) hx hb dX1_together_14 hl (by decide) rfl (fun ls hl => ?_)
    exact hL_16 a2 a3 fuel (0 : Int64) a0 (0 : Int32) σ H locs ls h hB (lv_sub hl [4, 5, 2, 1, 0] rfl)
  · replace h := itn h c_3
    refine lv_lconst (v := 0) hx hb dX1_together_5 (by decide) ?_
    obtain ⟨rfl, rfl⟩ := Prod.mk.inj (Option.some.inj h)
    exact W.lret hx hb hr (R_end hB) hB.2.2.2.2 dX1_together_6
def f_X1_multiplied_t21 (x2 : Int32) (x3 : Int64) (x5 : Int64) (x7 : Int32) (σ1 : Hp) : Option ((Int64 × Int64 × Int32 × Hp) ⊕ (Int64 × Hp)) := if (64 : Int32) ≤ x7 then ex (some (x3, σ1)) else if (lg_cmp x5 (0 : Int64)) ≤ 0 then ex (some (x3, σ1)) else ck (¬ x2.toInt64 = 0) (some (.inl ((x3 * (x5 - x5 / x2.toInt64 * x2.toInt64)), (x5 / x2.toInt64), (x7 + 1), σ1)))
def f_X1_multiplied_s21 (x2 : Int32) (v : (Int64 × Int64 × Int32 × Hp)) : Option ((Int64 × Int64 × Int32 × Hp) ⊕ (Int64 × Hp)) := f_X1_multiplied_t21 x2 v.1 v.2.1 v.2.2.1 v.2.2.2
def f_X1_multiplied (a0 : Int64) (a2 : Int32) (σ : Hp) : Option (Int64 × Hp) := if a2 < (2 : Int32) then some ((0 : Int64), σ) else if (lg_cmp a0 (0 : Int64)) = 0 then some ((0 : Int64), σ) else iter (f_X1_multiplied_s21 a2) fuel ((1 : Int64), a0, (0 : Int32), σ)
set_option maxHeartbeats 4000000 in
set_option maxRecDepth 100000 in
theorem c_X1_multiplied (l : Launch) (g : tG) (P : Nat → Nat) (σ : Hp) (a0 : Int64) (a2 : Int32) (sz : Nat) {r : Int64} {τ : Hp} (h : f_X1_multiplied a0 a2 σ = some (r, τ)) : Met l yX1_multiplied (Cond.code yX1_multiplied cX1_multiplied 8 (some .long) :: tblG) ({ frames := 0, cells := 0, slots := 0, locals := 0 }) (va_Pc [.long a0, .int a2] (tPre g P σ sz)) (tQ (some (.long r)) (tPost g P τ (va_A (wC g P σ) sz)) (va_A (wC g P σ) sz)) 0 0 (va_A (wC g P σ) sz) := by
  refine T_start (B := fun A => tPost g P τ A) (by decide) (Nat.le_of_ble_eq_true rfl) ?_
  intro p e s m args below meth c ls0 A hx hb hml hr hown hlocks ht hnm hK hZ hA hB0 hl0
  have hL_21 : ∀ (x2 : Int32) (n : Nat) (x3 : Int64) (x5 : Int64) (x7 : Int32) (σ1 : Hp) (H : Heap) (locs : List Loc) (ls : Array Slot), iter (f_X1_multiplied_s21 x2) n (x3, x5, x7, σ1) = some (r, τ) → tB g P σ1 A s.heap H locs → lv_has ls 8 [(2, .int x2), (3, .long x3), (5, .long x5), (7, .int x7)] → WQ p l e { frames := 0, cells := 0, slots := 0, locals := 0 } s m args below meth c g P A (some (.long r)) τ H locs (F0 m 21 ls []) := by
    intro x2 n
    induction n with
    | zero =>
      intro x3 x5 x7 σ1 H locs ls h hB hl
      exact (iter_0 h).elim
    | succ n ih1 =>
      intro x3 x5 x7 σ1 H locs ls h hB hl
      replace h := iter_eq h; obtain ⟨z1, hh1, hx1⟩ := h
      have h : f_X1_multiplied_t21 x2 x3 x5 x7 σ1 = some z1 := hh1
      clear hh1
      unfold f_X1_multiplied_t21 at h
      refine lv_iload hx hb dX1_multiplied_21 (lv_at hl 3 rfl) ?_
      refine lv_bipush (v := 64) hx hb dX1_multiplied_23 (by decide) ?_
      refine lv_icmp_ge (tgt := 56) hx hb dX1_multiplied_25 (by decide) (fun c_5 => ?_) (fun c_5 => ?_)
      · replace h := itp h c_5
        replace h := ex_eq h; obtain ⟨b1, h, hz1⟩ := h
        subst hz1
        have hz1 := (itk_inr hx1).symm
        subst hz1
        refine lv_lload_n hx hb dX1_multiplied_56 rfl (lv_at hl 1 rfl) ?_
        obtain ⟨rfl, rfl⟩ := Prod.mk.inj (Option.some.inj h)
        exact W.lret hx hb hr (R_end hB) hB.2.2.2.2 dX1_multiplied_57
      · replace h := itn h c_5
        refine lv_lload hx hb dX1_multiplied_28 (lv_at hl 2 rfl) ?_
        refine lv_lconst (v := 0) hx hb dX1_multiplied_30 (by decide) ?_
        refine W.lcmp hx hb dX1_multiplied_31 ?_
        refine lv_if_le (tgt := 56) hx hb dX1_multiplied_32 (by decide) (fun c_6 => ?_) (fun c_6 => ?_)
        · replace h := itp h c_6
          replace h := ex_eq h; obtain ⟨b1, h, hz1⟩ := h
          subst hz1
          have hz1 := (itk_inr hx1).symm
          subst hz1
          refine lv_lload_n hx hb dX1_multiplied_56 rfl (lv_at hl 1 rfl) ?_
          obtain ⟨rfl, rfl⟩ := Prod.mk.inj (Option.some.inj h)
          exact W.lret hx hb hr (R_end hB) hB.2.2.2.2 dX1_multiplied_57
        · replace h := itn h c_6
          refine lv_lload_n hx hb dX1_multiplied_35 rfl (lv_at hl 1 rfl) ?_
          refine lv_lload hx hb dX1_multiplied_36 (lv_at hl 2 rfl) ?_
          refine lv_iload_n hx hb dX1_multiplied_38 rfl (lv_at hl 0 rfl) ?_
          refine lv_i2l (v := x2.toInt64) hx hb dX1_multiplied_39 rfl ?_
          replace h := ck_eq h; obtain ⟨q_7, h⟩ := h
          refine lv_lrem hx hb dX1_multiplied_40 q_7 ?_
          refine lv_lmul hx hb dX1_multiplied_41 ?_
          refine lv_lstore_n (lv' := [(3, .long (x3 * (x5 - x5 / x2.toInt64 * x2.toInt64))), (2, .int x2), (5, .long x5), (7, .int x7)]) hx hb dX1_multiplied_42 rfl hl (by decide) rfl (fun ls hl => ?_)
          refine lv_lload hx hb dX1_multiplied_43 (lv_at hl 2 rfl) ?_
          refine lv_iload_n hx hb dX1_multiplied_45 rfl (lv_at hl 1 rfl) ?_
          refine lv_i2l (v := x2.toInt64) hx hb dX1_multiplied_46 rfl ?_
          refine lv_ldiv hx hb dX1_multiplied_47 q_7 ?_
          refine lv_lstore (lv' := [(5, .long (x5 / x2.toInt64)), (3, .long (x3 * (x5 - x5 / x2.toInt64 * x2.toInt64))), (2, .int x2), (7, .int x7)]) hx hb dX1_multiplied_48 hl (by decide) rfl (fun ls hl => ?_)
          refine lv_iinc (v := x7 + 1) (lv' := [(7, .int (x7 + 1)), (5, .long (x5 / x2.toInt64)), (3, .long (x3 * (x5 - x5 / x2.toInt64 * x2.toInt64))), (2, .int x2)]) hx hb dX1_multiplied_50 hl (k := 3) rfl rfl (by decide) rfl (fun ls hl => ?_)
          refine lv_goto (tgt := 21) hx hb dX1_multiplied_53 (by decide) ?_
          obtain rfl := Option.some.inj h
          exact ih1 (x3 * (x5 - x5 / x2.toInt64 * x2.toInt64)) (x5 / x2.toInt64) (x7 + 1) σ1 H locs ls hx1 hB (lv_sub hl [3, 2, 1, 0] rfl)
  suffices hmain : ∀ (H : Heap) (locs : List Loc) (ls : Array Slot), tB g P σ A s.heap H locs → lv_has ls 8 [(0, .long a0), (2, .int a2)] → WQ p l e { frames := 0, cells := 0, slots := 0, locals := 0 } s m args below meth c g P A (some (.long r)) τ H locs (F0 m 0 ls []) from hmain _ _ ls0 hB0 hl0
  intro H locs ls hB hl
  unfold f_X1_multiplied at h
  refine lv_iload_n hx hb dX1_multiplied_0 rfl (lv_at hl 1 rfl) ?_
  refine lv_iconst (v := 2) hx hb dX1_multiplied_1 (by decide) ?_
  refine lv_icmp_lt (tgt := 11) hx hb dX1_multiplied_2 (by decide) (fun c_3 => ?_) (fun c_3 => ?_)
  · replace h := itp h c_3
    refine lv_lconst (v := 0) hx hb dX1_multiplied_11 (by decide) ?_
    obtain ⟨rfl, rfl⟩ := Prod.mk.inj (Option.some.inj h)
    exact W.lret hx hb hr (R_end hB) hB.2.2.2.2 dX1_multiplied_12
  · replace h := itn h c_3
    refine lv_lload_n hx hb dX1_multiplied_5 rfl (lv_at hl 0 rfl) ?_
    refine lv_lconst (v := 0) hx hb dX1_multiplied_6 (by decide) ?_
    refine W.lcmp hx hb dX1_multiplied_7 ?_
    refine lv_if_ne (tgt := 13) hx hb dX1_multiplied_8 (by decide) (fun c_4 => ?_) (fun c_4 => ?_)
    · replace h := itn h c_4
      refine lv_lconst (v := 1) hx hb dX1_multiplied_13 (by decide) ?_
      refine lv_lstore_n (lv' := [(3, .long (1 : Int64)), (0, .long a0), (2, .int a2)]) hx hb dX1_multiplied_14 rfl hl (by decide) rfl (fun ls hl => ?_)
      refine lv_lload_n hx hb dX1_multiplied_15 rfl (lv_at hl 1 rfl) ?_
      refine lv_lstore (lv' := [(5, .long a0), (3, .long (1 : Int64)), (0, .long a0), (2, .int a2)]) hx hb dX1_multiplied_16 hl (by decide) rfl (fun ls hl => ?_)
      refine lv_iconst (v := 0) hx hb dX1_multiplied_18 (by decide) ?_
      refine lv_istore (lv' := [(7, .int (0 : Int32)), (5, .long a0), (3, .long (1 : Int64)), (0, .long a0), (2, .int a2)]) hx hb dX1_multiplied_19 hl (by decide) rfl (fun ls hl => ?_)
      exact hL_21 a2 fuel (1 : Int64) a0 (0 : Int32) σ H locs ls h hB (lv_sub hl [4, 2, 1, 0] rfl)
    · replace h := itp h c_4
      refine lv_lconst (v := 0) hx hb dX1_multiplied_11 (by decide) ?_
      obtain ⟨rfl, rfl⟩ := Prod.mk.inj (Option.some.inj h)
      exact W.lret hx hb hr (R_end hB) hB.2.2.2.2 dX1_multiplied_12
def f_X1_checkOf_b54 (x2 : Int32) (x3 : Int64) (σ1 : Hp) : Option (Int32 × Hp) := ck (¬ x2.toInt64 = 0) (some ((x3 - x3 / x2.toInt64 * x2.toInt64).toInt32, σ1))
def f_X1_checkOf_t15 (x2 : Int32) (x3 : Int64) (x5 : Int64) (x7 : Int32) (σ1 : Hp) : Option ((Int64 × Int64 × Int32 × Hp) ⊕ (Int32 × Hp)) := if (64 : Int32) < x7 then ex (f_X1_checkOf_b54 x2 x3 σ1) else if (lg_cmp x5 (0 : Int64)) ≤ 0 then ex (f_X1_checkOf_b54 x2 x3 σ1) else ck (¬ x2.toInt64 = 0) (some (.inl ((x3 + (x7.toInt64 * (x5 - x5 / x2.toInt64 * x2.toInt64))), (x5 / x2.toInt64), (x7 + 1), σ1)))
def f_X1_checkOf_s15 (x2 : Int32) (v : (Int64 × Int64 × Int32 × Hp)) : Option ((Int64 × Int64 × Int32 × Hp) ⊕ (Int32 × Hp)) := f_X1_checkOf_t15 x2 v.1 v.2.1 v.2.2.1 v.2.2.2
def f_X1_checkOf (a0 : Int64) (a2 : Int32) (σ : Hp) : Option (Int32 × Hp) := if (2 : Int32) ≤ a2 then iter (f_X1_checkOf_s15 a2) fuel ((0 : Int64), a0, (1 : Int32), σ) else some ((0 : Int32), σ)
set_option maxHeartbeats 4000000 in
set_option maxRecDepth 100000 in
theorem c_X1_checkOf (l : Launch) (g : tG) (P : Nat → Nat) (σ : Hp) (a0 : Int64) (a2 : Int32) (sz : Nat) {r : Int32} {τ : Hp} (h : f_X1_checkOf a0 a2 σ = some (r, τ)) : Met l yX1_checkOf (Cond.code yX1_checkOf cX1_checkOf 8 (some .int) :: tblG) ({ frames := 0, cells := 0, slots := 0, locals := 0 }) (va_Pc [.long a0, .int a2] (tPre g P σ sz)) (tQ (some (.int r)) (tPost g P τ (va_A (wC g P σ) sz)) (va_A (wC g P σ) sz)) 0 0 (va_A (wC g P σ) sz) := by
  refine T_start (B := fun A => tPost g P τ A) (by decide) (Nat.le_of_ble_eq_true rfl) ?_
  intro p e s m args below meth c ls0 A hx hb hml hr hown hlocks ht hnm hK hZ hA hB0 hl0
  have hb_54 : ∀ (x2 : Int32) (x3 : Int64) (σ1 : Hp) (H : Heap) (locs : List Loc) (ls : Array Slot), f_X1_checkOf_b54 x2 x3 σ1 = some (r, τ) → tB g P σ1 A s.heap H locs → lv_has ls 8 [(2, .int x2), (3, .long x3)] → WQ p l e { frames := 0, cells := 0, slots := 0, locals := 0 } s m args below meth c g P A (some (.int r)) τ H locs (F0 m 54 ls []) := by
    intro x2 x3 σ1 H locs ls h hB hl
    unfold f_X1_checkOf_b54 at h
    refine lv_lload_n hx hb dX1_checkOf_54 rfl (lv_at hl 1 rfl) ?_
    refine lv_iload_n hx hb dX1_checkOf_55 rfl (lv_at hl 0 rfl) ?_
    refine lv_i2l (v := x2.toInt64) hx hb dX1_checkOf_56 rfl ?_
    replace h := ck_eq h; obtain ⟨q_6, h⟩ := h
    refine lv_lrem hx hb dX1_checkOf_57 q_6 ?_
    refine lv_l2i (v := (x3 - x3 / x2.toInt64 * x2.toInt64).toInt32) hx hb dX1_checkOf_58 rfl ?_
    obtain ⟨rfl, rfl⟩ := Prod.mk.inj (Option.some.inj h)
    exact W.iret hx hb hr (R_end hB) hB.2.2.2.2 dX1_checkOf_59
  have hL_15 : ∀ (x2 : Int32) (n : Nat) (x3 : Int64) (x5 : Int64) (x7 : Int32) (σ1 : Hp) (H : Heap) (locs : List Loc) (ls : Array Slot), iter (f_X1_checkOf_s15 x2) n (x3, x5, x7, σ1) = some (r, τ) → tB g P σ1 A s.heap H locs → lv_has ls 8 [(2, .int x2), (3, .long x3), (5, .long x5), (7, .int x7)] → WQ p l e { frames := 0, cells := 0, slots := 0, locals := 0 } s m args below meth c g P A (some (.int r)) τ H locs (F0 m 15 ls []) := by
    intro x2 n
    induction n with
    | zero =>
      intro x3 x5 x7 σ1 H locs ls h hB hl
      exact (iter_0 h).elim
    | succ n ih1 =>
      intro x3 x5 x7 σ1 H locs ls h hB hl
      replace h := iter_eq h; obtain ⟨z1, hh1, hx1⟩ := h
      have h : f_X1_checkOf_t15 x2 x3 x5 x7 σ1 = some z1 := hh1
      clear hh1
      unfold f_X1_checkOf_t15 at h
      refine lv_iload hx hb dX1_checkOf_15 (lv_at hl 3 rfl) ?_
      refine lv_bipush (v := 64) hx hb dX1_checkOf_17 (by decide) ?_
      refine lv_icmp_gt (tgt := 54) hx hb dX1_checkOf_19 (by decide) (fun c_5 => ?_) (fun c_5 => ?_)
      · replace h := itp h c_5
        replace h := ex_eq h; obtain ⟨b1, h, hz1⟩ := h
        subst hz1
        have hz1 := (itk_inr hx1).symm
        subst hz1
        exact hb_54 x2 x3 σ1 H locs ls h hB (lv_sub hl [0, 1] rfl)
      · replace h := itn h c_5
        refine lv_lload hx hb dX1_checkOf_22 (lv_at hl 2 rfl) ?_
        refine lv_lconst (v := 0) hx hb dX1_checkOf_24 (by decide) ?_
        refine W.lcmp hx hb dX1_checkOf_25 ?_
        refine lv_if_le (tgt := 54) hx hb dX1_checkOf_26 (by decide) (fun c_7 => ?_) (fun c_7 => ?_)
        · replace h := itp h c_7
          replace h := ex_eq h; obtain ⟨b1, h, hz1⟩ := h
          subst hz1
          have hz1 := (itk_inr hx1).symm
          subst hz1
          exact hb_54 x2 x3 σ1 H locs ls h hB (lv_sub hl [0, 1] rfl)
        · replace h := itn h c_7
          refine lv_lload_n hx hb dX1_checkOf_29 rfl (lv_at hl 1 rfl) ?_
          refine lv_iload hx hb dX1_checkOf_30 (lv_at hl 3 rfl) ?_
          refine lv_i2l (v := x7.toInt64) hx hb dX1_checkOf_32 rfl ?_
          refine lv_lload hx hb dX1_checkOf_33 (lv_at hl 2 rfl) ?_
          refine lv_iload_n hx hb dX1_checkOf_35 rfl (lv_at hl 0 rfl) ?_
          refine lv_i2l (v := x2.toInt64) hx hb dX1_checkOf_36 rfl ?_
          replace h := ck_eq h; obtain ⟨q_8, h⟩ := h
          refine lv_lrem hx hb dX1_checkOf_37 q_8 ?_
          refine lv_lmul hx hb dX1_checkOf_38 ?_
          refine lv_ladd hx hb dX1_checkOf_39 ?_
          refine lv_lstore_n (lv' := [(3, .long (x3 + (x7.toInt64 * (x5 - x5 / x2.toInt64 * x2.toInt64)))), (2, .int x2), (5, .long x5), (7, .int x7)]) hx hb dX1_checkOf_40 rfl hl (by decide) rfl (fun ls hl => ?_)
          refine lv_lload hx hb dX1_checkOf_41 (lv_at hl 2 rfl) ?_
          refine lv_iload_n hx hb dX1_checkOf_43 rfl (lv_at hl 1 rfl) ?_
          refine lv_i2l (v := x2.toInt64) hx hb dX1_checkOf_44 rfl ?_
          refine lv_ldiv hx hb dX1_checkOf_45 q_8 ?_
          refine lv_lstore (lv' := [(5, .long (x5 / x2.toInt64)), (3, .long (x3 + (x7.toInt64 * (x5 - x5 / x2.toInt64 * x2.toInt64)))), (2, .int x2), (7, .int x7)]) hx hb dX1_checkOf_46 hl (by decide) rfl (fun ls hl => ?_)
          refine lv_iinc (v := x7 + 1) (lv' := [(7, .int (x7 + 1)), (5, .long (x5 / x2.toInt64)), (3, .long (x3 + (x7.toInt64 * (x5 - x5 / x2.toInt64 * x2.toInt64)))), (2, .int x2)]) hx hb dX1_checkOf_48 hl (k := 3) rfl rfl (by decide) rfl (fun ls hl => ?_)
          refine lv_goto (tgt := 15) hx hb dX1_checkOf_51 (by decide) ?_
          obtain rfl := Option.some.inj h
          exact ih1 (x3 + (x7.toInt64 * (x5 - x5 / x2.toInt64 * x2.toInt64))) (x5 / x2.toInt64) (x7 + 1) σ1 H locs ls hx1 hB (lv_sub hl [3, 2, 1, 0] rfl)
  suffices hmain : ∀ (H : Heap) (locs : List Loc) (ls : Array Slot), tB g P σ A s.heap H locs → lv_has ls 8 [(0, .long a0), (2, .int a2)] → WQ p l e { frames := 0, cells := 0, slots := 0, locals := 0 } s m args below meth c g P A (some (.int r)) τ H locs (F0 m 0 ls []) from hmain _ _ ls0 hB0 hl0
  intro H locs ls hB hl
  unfold f_X1_checkOf at h
  refine lv_iload_n hx hb dX1_checkOf_0 rfl (lv_at hl 1 rfl) ?_
  refine lv_iconst (v := 2) hx hb dX1_checkOf_1 (by decide) ?_
  refine lv_icmp_ge (tgt := 7) hx hb dX1_checkOf_2 (by decide) (fun c_4 => ?_) (fun c_4 => ?_)
  · replace h := itp h c_4
    refine lv_lconst (v := 0) hx hb dX1_checkOf_7 (by decide) ?_
    refine lv_lstore_n (lv' := [(3, .long (0 : Int64)), (0, .long a0), (2, .int a2)]) hx hb dX1_checkOf_8 rfl hl (by decide) rfl (fun ls hl => ?_)
    refine lv_lload_n hx hb dX1_checkOf_9 rfl (lv_at hl 1 rfl) ?_
    refine lv_lstore (lv' := [(5, .long a0), (3, .long (0 : Int64)), (0, .long a0), (2, .int a2)]) hx hb dX1_checkOf_10 hl (by decide) rfl (fun ls hl => ?_)
    refine lv_iconst (v := 1) hx hb dX1_checkOf_12 (by decide) ?_
    refine lv_istore (lv' := [(7, .int (1 : Int32)), (5, .long a0), (3, .long (0 : Int64)), (0, .long a0), (2, .int a2)]) hx hb dX1_checkOf_13 hl (by decide) rfl (fun ls hl => ?_)
    exact hL_15 a2 fuel (0 : Int64) a0 (1 : Int32) σ H locs ls h hB (lv_sub hl [4, 2, 1, 0] rfl)
  · replace h := itn h c_4
    refine lv_iconst (v := 0) hx hb dX1_checkOf_5 (by decide) ?_
    obtain ⟨rfl, rfl⟩ := Prod.mk.inj (Option.some.inj h)
    exact W.iret hx hb hr (R_end hB) hB.2.2.2.2 dX1_checkOf_6
def f_X1_mirrored_t30 (x2 : Int32) (x3 : Int32) (x4 : Int64) (x6 : Int64) (x8 : Int32) (σ1 : Hp) : Option ((Int64 × Int64 × Int32 × Hp) ⊕ (Int64 × Hp)) := if (x2 / (2 : Int32)) ≤ x8 then ex (some (x4, σ1)) else ck (¬ x3.toInt64 = 0) (some (.inl (((x4 * x3.toInt64) + (x6 - x6 / x3.toInt64 * x3.toInt64)), (x6 / x3.toInt64), (x8 + 1), σ1)))
def f_X1_mirrored_s30 (x2 : Int32) (x3 : Int32) (v : (Int64 × Int64 × Int32 × Hp)) : Option ((Int64 × Int64 × Int32 × Hp) ⊕ (Int64 × Hp)) := f_X1_mirrored_t30 x2 x3 v.1 v.2.1 v.2.2.1 v.2.2.2
def f_X1_mirrored_b25 (x2 : Int32) (x3 : Int32) (x4 : Int64) (xt0 : Int64) (σ1 : Hp) : Option (Int64 × Hp) := iter (f_X1_mirrored_s30 x2 x3) fuel (x4, xt0, (0 : Int32), σ1)
def f_X1_mirrored (a0 : Int64) (a2 : Int32) (a3 : Int32) (σ : Hp) : Option (Int64 × Hp) := if (2 : Int32) ≤ a3 then if (a2 - a2 / (2 : Int32) * (2 : Int32)) = (1 : Int32) then ck (¬ a3.toInt64 = 0) (f_X1_mirrored_b25 a2 a3 a0 (a0 / a3.toInt64) σ) else f_X1_mirrored_b25 a2 a3 a0 a0 σ else some (a0, σ)
set_option maxHeartbeats 4000000 in
set_option maxRecDepth 100000 in
theorem c_X1_mirrored (l : Launch) (g : tG) (P : Nat → Nat) (σ : Hp) (a0 : Int64) (a2 : Int32) (a3 : Int32) (sz : Nat) {r : Int64} {τ : Hp} (h : f_X1_mirrored a0 a2 a3 σ = some (r, τ)) : Met l yX1_mirrored (Cond.code yX1_mirrored cX1_mirrored 9 (some .long) :: tblG) ({ frames := 0, cells := 0, slots := 0, locals := 0 }) (va_Pc [.long a0, .int a2, .int a3] (tPre g P σ sz)) (tQ (some (.long r)) (tPost g P τ (va_A (wC g P σ) sz)) (va_A (wC g P σ) sz)) 0 0 (va_A (wC g P σ) sz) := by
  refine T_start (B := fun A => tPost g P τ A) (by decide) (Nat.le_of_ble_eq_true rfl) ?_
  intro p e s m args below meth c ls0 A hx hb hml hr hown hlocks ht hnm hK hZ hA hB0 hl0
  have hL_30 : ∀ (x2 : Int32) (x3 : Int32) (n : Nat) (x4 : Int64) (x6 : Int64) (x8 : Int32) (σ1 : Hp) (H : Heap) (locs : List Loc) (ls : Array Slot), iter (f_X1_mirrored_s30 x2 x3) n (x4, x6, x8, σ1) = some (r, τ) → tB g P σ1 A s.heap H locs → lv_has ls 9 [(2, .int x2), (3, .int x3), (4, .long x4), (6, .long x6), (8, .int x8)] → WQ p l e { frames := 0, cells := 0, slots := 0, locals := 0 } s m args below meth c g P A (some (.long r)) τ H locs (F0 m 30 ls []) := by
    intro x2 x3 n
    induction n with
    | zero =>
      intro x4 x6 x8 σ1 H locs ls h hB hl
      exact (iter_0 h).elim
    | succ n ih1 =>
      intro x4 x6 x8 σ1 H locs ls h hB hl
      replace h := iter_eq h; obtain ⟨z1, hh1, hx1⟩ := h
      have h : f_X1_mirrored_t30 x2 x3 x4 x6 x8 σ1 = some z1 := hh1
      clear hh1
      unfold f_X1_mirrored_t30 at h
      refine lv_iload hx hb dX1_mirrored_30 (lv_at hl 4 rfl) ?_
      refine lv_iload_n hx hb dX1_mirrored_32 rfl (lv_at hl 0 rfl) ?_
      refine lv_iconst (v := 2) hx hb dX1_mirrored_33 (by decide) ?_
      refine lv_idiv hx hb dX1_mirrored_34 (by decide) ?_
      refine lv_icmp_ge (tgt := 64) hx hb dX1_mirrored_35 (by decide) (fun c_8 => ?_) (fun c_8 => ?_)
      · replace h := itp h c_8
        replace h := ex_eq h; obtain ⟨b1, h, hz1⟩ := h
        subst hz1
        have hz1 := (itk_inr hx1).symm
        subst hz1
        refine lv_lload hx hb dX1_mirrored_64 (lv_at hl 2 rfl) ?_
        obtain ⟨rfl, rfl⟩ := Prod.mk.inj (Option.some.inj h)
        exact W.lret hx hb hr (R_end hB) hB.2.2.2.2 dX1_mirrored_66
      · replace h := itn h c_8
        refine lv_lload hx hb dX1_mirrored_38 (lv_at hl 2 rfl) ?_
        refine lv_iload_n hx hb dX1_mirrored_40 rfl (lv_at hl 1 rfl) ?_
        refine lv_i2l (v := x3.toInt64) hx hb dX1_mirrored_41 rfl ?_
        refine lv_lmul hx hb dX1_mirrored_42 ?_
        refine lv_lload hx hb dX1_mirrored_43 (lv_at hl 3 rfl) ?_
        refine lv_iload_n hx hb dX1_mirrored_45 rfl (lv_at hl 1 rfl) ?_
        refine lv_i2l (v := x3.toInt64) hx hb dX1_mirrored_46 rfl ?_
        replace h := ck_eq h; obtain ⟨q_9, h⟩ := h
        refine lv_lrem hx hb dX1_mirrored_47 q_9 ?_
        refine lv_ladd hx hb dX1_mirrored_48 ?_
        refine lv_lstore (lv' := [(4, .long ((x4 * x3.toInt64) + (x6 - x6 / x3.toInt64 * x3.toInt64))), (2, .int x2), (3, .int x3), (6, .long x6), (8, .int x8)]) hx hb dX1_mirrored_49 hl (by decide) rfl (fun ls hl => ?_)
        refine lv_lload hx hb dX1_mirrored_51 (lv_at hl 3 rfl) ?_
        refine lv_iload_n hx hb dX1_mirrored_53 rfl (lv_at hl 2 rfl) ?_
        refine lv_i2l (v := x3.toInt64) hx hb dX1_mirrored_54 rfl ?_
        refine lv_ldiv hx hb dX1_mirrored_55 q_9 ?_
        refine lv_lstore (lv' := [(6, .long (x6 / x3.toInt64)), (4, .long ((x4 * x3.toInt64) + (x6 - x6 / x3.toInt64 * x3.toInt64))), (2, .int x2), (3, .int x3), (8, .int x8)]) hx hb dX1_mirrored_56 hl (by decide) rfl (fun ls hl => ?_)
        refine lv_iinc (v := x8 + 1) (lv' := [(8, .int (x8 + 1)), (6, .long (x6 / x3.toInt64)), (4, .long ((x4 * x3.toInt64) + (x6 - x6 / x3.toInt64 * x3.toInt64))), (2, .int x2), (3, .int x3)]) hx hb dX1_mirrored_58 hl (k := 4) rfl rfl (by decide) rfl (fun ls hl => ?_)
        refine lv_goto (tgt := 30) hx hb dX1_mirrored_61 (by decide) ?_
        obtain rfl := Option.some.inj h
        exact ih1 ((x4 * x3.toInt64) + (x6 - x6 / x3.toInt64 * x3.toInt64)) (x6 / x3.toInt64) (x8 + 1) σ1 H locs ls hx1 hB (lv_sub hl [3, 4, 2, 1, 0] rfl)
  have hb_25 : ∀ (x2 : Int32) (x3 : Int32) (x4 : Int64) (xt0 : Int64) (σ1 : Hp) (H : Heap) (locs : List Loc) (ls : Array Slot), f_X1_mirrored_b25 x2 x3 x4 xt0 σ1 = some (r, τ) → tB g P σ1 A s.heap H locs → lv_has ls 9 [(2, .int x2), (3, .int x3), (4, .long x4)] → WQ p l e { frames := 0, cells := 0, slots := 0, locals := 0 } s m args below meth c g P A (some (.long r)) τ H locs (F0 m 25 ls [.long xt0]) := by
    intro x2 x3 x4 xt0 σ1 H locs ls h hB hl
    unfold f_X1_mirrored_b25 at h
    refine lv_lstore (lv' := [(6, .long xt0), (2, .int x2), (3, .int x3), (4, .long x4)]) hx hb dX1_mirrored_25 hl (by decide) rfl (fun ls hl => ?_)
    refine lv_iconst (v := 0) hx hb dX1_mirrored_27 (by decide) ?_
    refine lv_istore (lv' := [(8, .int (0 : Int32)), (6, .long xt0), (2, .int x2), (3, .int x3), (4, .long x4)]) hx hb dX1_mirrored_28 hl (by decide) rfl (fun ls hl => ?_)
    exact hL_30 x2 x3 fuel x4 xt0 (0 : Int32) σ1 H locs ls h hB (lv_sub hl [2, 3, 4, 1, 0] rfl)
  suffices hmain : ∀ (H : Heap) (locs : List Loc) (ls : Array Slot), tB g P σ A s.heap H locs → lv_has ls 9 [(0, .long a0), (2, .int a2), (3, .int a3)] → WQ p l e { frames := 0, cells := 0, slots := 0, locals := 0 } s m args below meth c g P A (some (.long r)) τ H locs (F0 m 0 ls []) from hmain _ _ ls0 hB0 hl0
  intro H locs ls hB hl
  unfold f_X1_mirrored at h
  refine lv_iload_n hx hb dX1_mirrored_0 rfl (lv_at hl 2 rfl) ?_
  refine lv_iconst (v := 2) hx hb dX1_mirrored_1 (by decide) ?_
  refine lv_icmp_ge (tgt := 7) hx hb dX1_mirrored_2 (by decide) (fun c_6 => ?_) (fun c_6 => ?_)
  · replace h := itp h c_6
    refine lv_lload_n hx hb dX1_mirrored_7 rfl (lv_at hl 0 rfl) ?_
    refine lv_lstore (lv' := [(4, .long a0), (0, .long a0), (2, .int a2), (3, .int a3)]) hx hb dX1_mirrored_8 hl (by decide) rfl (fun ls hl => ?_)
    refine lv_iload_n hx hb dX1_mirrored_10 rfl (lv_at hl 2 rfl) ?_
    refine lv_iconst (v := 2) hx hb dX1_mirrored_11 (by decide) ?_
    refine lv_irem hx hb dX1_mirrored_12 (by decide) ?_
    refine lv_iconst (v := 1) hx hb dX1_mirrored_13 (by decide) ?_
    refine lv_icmp_ne (tgt := 24) hx hb dX1_mirrored_14 (by decide) (fun c_7 => ?_) (fun c_7 => ?_)
    · replace h := itn h c_7
      refine lv_lload_n hx hb dX1_mirrored_24 rfl (lv_at hl 1 rfl) ?_
      exact hb_25 a2 a3 a0 a0 σ H locs ls h hB (lv_sub hl [2, 3, 0] rfl)
    · replace h := itp h c_7
      refine lv_lload_n hx hb dX1_mirrored_17 rfl (lv_at hl 1 rfl) ?_
      refine lv_iload_n hx hb dX1_mirrored_18 rfl (lv_at hl 3 rfl) ?_
      refine lv_i2l (v := a3.toInt64) hx hb dX1_mirrored_19 rfl ?_
      replace h := ck_eq h; obtain ⟨q_10, h⟩ := h
      refine lv_ldiv hx hb dX1_mirrored_20 q_10 ?_
      refine lv_goto (tgt := 25) hx hb dX1_mirrored_21 (by decide) ?_
      exact hb_25 a2 a3 a0 (a0 / a3.toInt64) σ H locs ls h hB (lv_sub hl [2, 3, 0] rfl)
  · replace h := itn h c_6
    refine lv_lload_n hx hb dX1_mirrored_5 rfl (lv_at hl 0 rfl) ?_
    obtain ⟨rfl, rfl⟩ := Prod.mk.inj (Option.some.inj h)
    exact W.lret hx hb hr (R_end hB) hB.2.2.2.2 dX1_mirrored_6
def f_X1_firstUnlike_t17 (x4 : Int32) (x5 : Int64) (x7 : Int64) (x9 : Int32) (σ1 : Hp) : Option ((Int64 × Int64 × Int32 × Hp) ⊕ (Int32 × Hp)) := if (64 : Int32) ≤ x9 then ex (some ((-1 : Int32), σ1)) else if (lg_cmp x5 x7) = 0 then ex (some ((-1 : Int32), σ1)) else ck (¬ x4.toInt64 = 0) (if (lg_cmp (x5 - x5 / x4.toInt64 * x4.toInt64) (x7 - x7 / x4.toInt64 * x4.toInt64)) = 0 then some (.inl ((x5 / x4.toInt64), (x7 / x4.toInt64), (x9 + 1), σ1)) else ex (some (x9, σ1)))
def f_X1_firstUnlike_s17 (x4 : Int32) (v : (Int64 × Int64 × Int32 × Hp)) : Option ((Int64 × Int64 × Int32 × Hp) ⊕ (Int32 × Hp)) := f_X1_firstUnlike_t17 x4 v.1 v.2.1 v.2.2.1 v.2.2.2
def f_X1_firstUnlike (a0 : Int64) (a2 : Int64) (a4 : Int32) (σ : Hp) : Option (Int32 × Hp) := if (2 : Int32) ≤ a4 then iter (f_X1_firstUnlike_s17 a4) fuel (a0, a2, (0 : Int32), σ) else some ((-1 : Int32), σ)
set_option maxHeartbeats 4000000 in
set_option maxRecDepth 100000 in
theorem c_X1_firstUnlike (l : Launch) (g : tG) (P : Nat → Nat) (σ : Hp) (a0 : Int64) (a2 : Int64) (a4 : Int32) (sz : Nat) {r : Int32} {τ : Hp} (h : f_X1_firstUnlike a0 a2 a4 σ = some (r, τ)) : Met l yX1_firstUnlike (Cond.code yX1_firstUnlike cX1_firstUnlike 10 (some .int) :: tblG) ({ frames := 0, cells := 0, slots := 0, locals := 0 }) (va_Pc [.long a0, .long a2, .int a4] (tPre g P σ sz)) (tQ (some (.int r)) (tPost g P τ (va_A (wC g P σ) sz)) (va_A (wC g P σ) sz)) 0 0 (va_A (wC g P σ) sz) := by
  refine T_start (B := fun A => tPost g P τ A) (by decide) (Nat.le_of_ble_eq_true rfl) ?_
  intro p e s m args below meth c ls0 A hx hb hml hr hown hlocks ht hnm hK hZ hA hB0 hl0
  have hL_17 : ∀ (x4 : Int32) (n : Nat) (x5 : Int64) (x7 : Int64) (x9 : Int32) (σ1 : Hp) (H : Heap) (locs : List Loc) (ls : Array Slot), iter (f_X1_firstUnlike_s17 x4) n (x5, x7, x9, σ1) = some (r, τ) → tB g P σ1 A s.heap H locs → lv_has ls 10 [(4, .int x4), (5, .long x5), (7, .long x7), (9, .int x9)] → WQ p l e { frames := 0, cells := 0, slots := 0, locals := 0 } s m args below meth c g P A (some (.int r)) τ H locs (F0 m 17 ls []) := by
    intro x4 n
    induction n with
    | zero =>
      intro x5 x7 x9 σ1 H locs ls h hB hl
      exact (iter_0 h).elim
    | succ n ih1 =>
      intro x5 x7 x9 σ1 H locs ls h hB hl
      replace h := iter_eq h; obtain ⟨z1, hh1, hx1⟩ := h
      have h : f_X1_firstUnlike_t17 x4 x5 x7 x9 σ1 = some z1 := hh1
      clear hh1
      unfold f_X1_firstUnlike_t17 at h
      refine lv_iload hx hb dX1_firstUnlike_17 (lv_at hl 3 rfl) ?_
      refine lv_bipush (v := 64) hx hb dX1_firstUnlike_19 (by decide) ?_
      refine lv_icmp_ge (tgt := 73) hx hb dX1_firstUnlike_21 (by decide) (fun c_6 => ?_) (fun c_6 => ?_)
      · replace h := itp h c_6
        replace h := ex_eq h; obtain ⟨b1, h, hz1⟩ := h
        subst hz1
        have hz1 := (itk_inr hx1).symm
        subst hz1
        refine lv_iconst (v := -1) hx hb dX1_firstUnlike_73 (by decide) ?_
        obtain ⟨rfl, rfl⟩ := Prod.mk.inj (Option.some.inj h)
        exact W.iret hx hb hr (R_end hB) hB.2.2.2.2 dX1_firstUnlike_74
      · replace h := itn h c_6
        refine lv_lload hx hb dX1_firstUnlike_24 (lv_at hl 1 rfl) ?_
        refine lv_lload hx hb dX1_firstUnlike_26 (lv_at hl 2 rfl) ?_
        refine W.lcmp hx hb dX1_firstUnlike_28 ?_
        refine lv_if_eq (tgt := 73) hx hb dX1_firstUnlike_29 (by decide) (fun c_7 => ?_) (fun c_7 => ?_)
        · replace h := itp h c_7
          replace h := ex_eq h; obtain ⟨b1, h, hz1⟩ := h
          subst hz1
          have hz1 := (itk_inr hx1).symm
          subst hz1
          refine lv_iconst (v := -1) hx hb dX1_firstUnlike_73 (by decide) ?_
          obtain ⟨rfl, rfl⟩ := Prod.mk.inj (Option.some.inj h)
          exact W.iret hx hb hr (R_end hB) hB.2.2.2.2 dX1_firstUnlike_74
        · replace h := itn h c_7
          refine lv_lload hx hb dX1_firstUnlike_32 (lv_at hl 1 rfl) ?_
          refine lv_iload hx hb dX1_firstUnlike_34 (lv_at hl 0 rfl) ?_
          refine lv_i2l (v := x4.toInt64) hx hb dX1_firstUnlike_36 rfl ?_
          replace h := ck_eq h; obtain ⟨q_8, h⟩ := h
          refine lv_lrem hx hb dX1_firstUnlike_37 q_8 ?_
          refine lv_lload hx hb dX1_firstUnlike_38 (lv_at hl 2 rfl) ?_
          refine lv_iload hx hb dX1_firstUnlike_40 (lv_at hl 0 rfl) ?_
          refine lv_i2l (v := x4.toInt64) hx hb dX1_firstUnlike_42 rfl ?_
          refine lv_lrem hx hb dX1_firstUnlike_43 q_8 ?_
          refine W.lcmp hx hb dX1_firstUnlike_44 ?_
          refine lv_if_eq (tgt := 51) hx hb dX1_firstUnlike_45 (by decide) (fun c_9 => ?_) (fun c_9 => ?_)
          · replace h := itp h c_9
            refine lv_lload hx hb dX1_firstUnlike_51 (lv_at hl 1 rfl) ?_
            refine lv_iload hx hb dX1_firstUnlike_53 (lv_at hl 0 rfl) ?_
            refine lv_i2l (v := x4.toInt64) hx hb dX1_firstUnlike_55 rfl ?_
            refine lv_ldiv hx hb dX1_firstUnlike_56 q_8 ?_
            refine lv_lstore (lv' := [(5, .long (x5 / x4.toInt64)), (4, .int x4), (7, .long x7), (9, .int x9)]) hx hb dX1_firstUnlike_57 hl (by decide) rfl (fun ls hl => ?_)
            refine lv_lload hx hb dX1_firstUnlike_59 (lv_at hl 2 rfl) ?_
            refine lv_iload hx hb dX1_firstUnlike_61 (lv_at hl 1 rfl) ?_
            refine lv_i2l (v := x4.toInt64) hx hb dX1_firstUnlike_63 rfl ?_
            refine lv_ldiv hx hb dX1_firstUnlike_64 q_8 ?_
            refine lv_lstore (lv' := [(7, .long (x7 / x4.toInt64)), (5, .long (x5 / x4.toInt64)), (4, .int x4), (9, .int x9)]) hx hb dX1_firstUnlike_65 hl (by decide) rfl (fun ls hl => ?_)
            refine lv_iinc (v := x9 + 1) (lv' := [(9, .int (x9 + 1)), (7, .long (x7 / x4.toInt64)), (5, .long (x5 / x4.toInt64)), (4, .int x4)]) hx hb dX1_firstUnlike_67 hl (k := 3) rfl rfl (by decide) rfl (fun ls hl => ?_)
            refine lv_goto (tgt := 17) hx hb dX1_firstUnlike_70 (by decide) ?_
            obtain rfl := Option.some.inj h
            exact ih1 (x5 / x4.toInt64) (x7 / x4.toInt64) (x9 + 1) σ1 H locs ls hx1 hB (lv_sub hl [3, 2, 1, 0] rfl)
          · replace h := itn h c_9
            replace h := ex_eq h; obtain ⟨b1, h, hz1⟩ := h
            subst hz1
            have hz1 := (itk_inr hx1).symm
            subst hz1
            refine lv_iload hx hb dX1_firstUnlike_48 (lv_at hl 3 rfl) ?_
            obtain ⟨rfl, rfl⟩ := Prod.mk.inj (Option.some.inj h)
            exact W.iret hx hb hr (R_end hB) hB.2.2.2.2 dX1_firstUnlike_50
  suffices hmain : ∀ (H : Heap) (locs : List Loc) (ls : Array Slot), tB g P σ A s.heap H locs → lv_has ls 10 [(0, .long a0), (2, .long a2), (4, .int a4)] → WQ p l e { frames := 0, cells := 0, slots := 0, locals := 0 } s m args below meth c g P A (some (.int r)) τ H locs (F0 m 0 ls []) from hmain _ _ ls0 hB0 hl0
  intro H locs ls hB hl
  unfold f_X1_firstUnlike at h
  refine lv_iload hx hb dX1_firstUnlike_0 (lv_at hl 2 rfl) ?_
  refine lv_iconst (v := 2) hx hb dX1_firstUnlike_2 (by decide) ?_
  refine lv_icmp_ge (tgt := 8) hx hb dX1_firstUnlike_3 (by decide) (fun c_5 => ?_) (fun c_5 => ?_)
  · replace h := itp h c_5
    refine lv_lload_n hx hb dX1_firstUnlike_8 rfl (lv_at hl 0 rfl) ?_
    refine lv_lstore (lv' := [(5, .long a0), (0, .long a0), (2, .long a2), (4, .int a4)]) hx hb dX1_firstUnlike_9 hl (by decide) rfl (fun ls hl => ?_)
    refine lv_lload_n hx hb dX1_firstUnlike_11 rfl (lv_at hl 2 rfl) ?_
    refine lv_lstore (lv' := [(7, .long a2), (5, .long a0), (0, .long a0), (2, .long a2), (4, .int a4)]) hx hb dX1_firstUnlike_12 hl (by decide) rfl (fun ls hl => ?_)
    refine lv_iconst (v := 0) hx hb dX1_firstUnlike_14 (by decide) ?_
    refine lv_istore (lv' := [(9, .int (0 : Int32)), (7, .long a2), (5, .long a0), (0, .long a0), (2, .long a2), (4, .int a4)]) hx hb dX1_firstUnlike_15 hl (by decide) rfl (fun ls hl => ?_)
    exact hL_17 a4 fuel a0 a2 (0 : Int32) σ H locs ls h hB (lv_sub hl [5, 2, 1, 0] rfl)
  · replace h := itn h c_5
    refine lv_iconst (v := -1) hx hb dX1_firstUnlike_6 (by decide) ?_
    obtain ⟨rfl, rfl⟩ := Prod.mk.inj (Option.some.inj h)
    exact W.iret hx hb hr (R_end hB) hB.2.2.2.2 dX1_firstUnlike_7
def f_X1_spread_t136 (x2 : Int32) (x3 : Int64) (x9 : Int64) (x11 : Int32) (x14 : Int64) (x7 : Int64) (x16 : Int64) (σ1 : Hp) : Option ((Int64 × Int64 × Hp) ⊕ ((Int64 × Int64 × Int32 × Hp) ⊕ (Int64 × Hp))) := if 0 ≤ (lg_cmp x16 x14) then ex (some (.inl (x7, x9, (x11 + 1), σ1))) else some (.inl (((((x7 * x2.toInt64) + x2.toInt64) - (1 : Int64)) - x11.toInt64), (x16 + (1 : Int64)), σ1))
def f_X1_spread_s136 (x2 : Int32) (x3 : Int64) (x9 : Int64) (x11 : Int32) (x14 : Int64) (v : (Int64 × Int64 × Hp)) : Option ((Int64 × Int64 × Hp) ⊕ ((Int64 × Int64 × Int32 × Hp) ⊕ (Int64 × Hp))) := f_X1_spread_t136 x2 x3 x9 x11 x14 v.1 v.2.1 v.2.2
def f_X1_spread_t105 (x2 : Int32) (x3 : Int64) (x7 : Int64) (x11 : Int32) (x12 : Int64) (x14 : Int64) (x9 : Int64) (x16 : Int64) (σ1 : Hp) : Option ((Int64 × Int64 × Hp) ⊕ ((Int64 × Int64 × Int32 × Hp) ⊕ (Int64 × Hp))) := if 0 ≤ (lg_cmp x16 x12) then ex (iter (f_X1_spread_s136 x2 x3 x9 x11 x14) fuel (x7, (0 : Int64), σ1)) else some (.inl (((x9 * x2.toInt64) + x11.toInt64), (x16 + (1 : Int64)), σ1))
def f_X1_spread_s105 (x2 : Int32) (x3 : Int64) (x7 : Int64) (x11 : Int32) (x12 : Int64) (x14 : Int64) (v : (Int64 × Int64 × Hp)) : Option ((Int64 × Int64 × Hp) ⊕ ((Int64 × Int64 × Int32 × Hp) ⊕ (Int64 × Hp))) := f_X1_spread_t105 x2 x3 x7 x11 x12 x14 v.1 v.2.1 v.2.2
def f_X1_spread_t66 (x2 : Int32) (x3 : Int64) (x7 : Int64) (x9 : Int64) (x11 : Int32) (σ1 : Hp) : Option ((Int64 × Int64 × Int32 × Hp) ⊕ (Int64 × Hp)) := if x2 ≤ x11 then ex (some ((x7 - x9), σ1)) else iter (f_X1_spread_s105 x2 x3 x7 x11 ((x3.toUInt64 >>> (((6 : Int32) * x11).toInt64.toUInt64 &&& Int64.toUInt64 63)).toInt64 &&& (63 : Int64)) ((x3.toUInt64 >>> (((6 : Int32) * ((x2 - (1 : Int32)) - x11)).toInt64.toUInt64 &&& Int64.toUInt64 63)).toInt64 &&& (63 : Int64))) fuel (x9, (0 : Int64), σ1)
def f_X1_spread_s66 (x2 : Int32) (x3 : Int64) (v : (Int64 × Int64 × Int32 × Hp)) : Option ((Int64 × Int64 × Int32 × Hp) ⊕ (Int64 × Hp)) := f_X1_spread_t66 x2 x3 v.1 v.2.1 v.2.2.1 v.2.2.2
def f_X1_spread_b57 (x2 : Int32) (x3 : Int64) (σ1 : Hp) : Option (Int64 × Hp) := iter (f_X1_spread_s66 x2 x3) fuel ((0 : Int64), (0 : Int64), (0 : Int32), σ1)
def f_X1_spread_t15 (x2 : Int32) (x3 : Int64) (x5 : Int64) (x7 : Int32) (σ1 : Hp) : Option ((Int64 × Int64 × Int32 × Hp) ⊕ (Int64 × Hp)) := if (64 : Int32) ≤ x7 then ex (f_X1_spread_b57 x2 x3 σ1) else if (lg_cmp x5 (0 : Int64)) ≤ 0 then ex (f_X1_spread_b57 x2 x3 σ1) else ck (¬ x2.toInt64 = 0) (some (.inl ((x3 + ((1 : Int64) <<< ((((6 : Int64) * (x5 - x5 / x2.toInt64 * x2.toInt64)).toInt32).toInt64 &&& 63))), (x5 / x2.toInt64), (x7 + 1), σ1)))
def f_X1_spread_s15 (x2 : Int32) (v : (Int64 × Int64 × Int32 × Hp)) : Option ((Int64 × Int64 × Int32 × Hp) ⊕ (Int64 × Hp)) := f_X1_spread_t15 x2 v.1 v.2.1 v.2.2.1 v.2.2.2
def f_X1_spread (a0 : Int64) (a2 : Int32) (σ : Hp) : Option (Int64 × Hp) := if (2 : Int32) ≤ a2 then iter (f_X1_spread_s15 a2) fuel ((0 : Int64), a0, (0 : Int32), σ) else some ((0 : Int64), σ)
set_option maxHeartbeats 4000000 in
set_option maxRecDepth 100000 in
theorem c_X1_spread (l : Launch) (g : tG) (P : Nat → Nat) (σ : Hp) (a0 : Int64) (a2 : Int32) (sz : Nat) {r : Int64} {τ : Hp} (h : f_X1_spread a0 a2 σ = some (r, τ)) : Met l yX1_spread (Cond.code yX1_spread cX1_spread 18 (some .long) :: tblG) ({ frames := 0, cells := 0, slots := 0, locals := 0 }) (va_Pc [.long a0, .int a2] (tPre g P σ sz)) (tQ (some (.long r)) (tPost g P τ (va_A (wC g P σ) sz)) (va_A (wC g P σ) sz)) 0 0 (va_A (wC g P σ) sz) := by
  refine T_start (B := fun A => tPost g P τ A) (by decide) (Nat.le_of_ble_eq_true rfl) ?_
  intro p e s m args below meth c ls0 A hx hb hml hr hown hlocks ht hnm hK hZ hA hB0 hl0
  have hL_66 : ∀ (x2 : Int32) (x3 : Int64) (n : Nat) (x7 : Int64) (x9 : Int64) (x11 : Int32) (σ1 : Hp) (H : Heap) (locs : List Loc) (ls : Array Slot), iter (f_X1_spread_s66 x2 x3) n (x7, x9, x11, σ1) = some (r, τ) → tB g P σ1 A s.heap H locs → lv_has ls 18 [(2, .int x2), (3, .long x3), (7, .long x7), (9, .long x9), (11, .int x11)] → WQ p l e { frames := 0, cells := 0, slots := 0, locals := 0 } s m args below meth c g P A (some (.long r)) τ H locs (F0 m 66 ls []) := by
    intro x2 x3 n
    induction n with
    | zero =>
      intro x7 x9 x11 σ1 H locs ls h hB hl
      exact (iter_0 h).elim
    | succ n ih1 =>
      intro x7 x9 x11 σ1 H locs ls h hB hl
      replace h := iter_eq h; obtain ⟨z1, hh1, hx1⟩ := h
      have hL_136 : ∀ (x9 : Int64) (x11 : Int32) (x14 : Int64) (n : Nat) (x7 : Int64) (x16 : Int64) (σ1 : Hp) (H : Heap) (locs : List Loc) (ls : Array Slot), iter (f_X1_spread_s136 x2 x3 x9 x11 x14) n (x7, x16, σ1) = some z1 → tB g P σ1 A s.heap H locs → lv_has ls 18 [(2, .int x2), (3, .long x3), (7, .long x7), (9, .long x9), (11, .int x11), (14, .long x14), (16, .long x16)] → WQ p l e { frames := 0, cells := 0, slots := 0, locals := 0 } s m args below meth c g P A (some (.long r)) τ H locs (F0 m 136 ls []) := by
        intro x9 x11 x14 n
        induction n with
        | zero =>
          intro x7 x16 σ1 H locs ls h hB hl
          exact (iter_0 h).elim
        | succ n ih2 =>
          intro x7 x16 σ1 H locs ls h hB hl
          replace h := iter_eq h; obtain ⟨z2, hh2, hx2⟩ := h
          have h : f_X1_spread_t136 x2 x3 x9 x11 x14 x7 x16 σ1 = some z2 := hh2
          clear hh2
          unfold f_X1_spread_t136 at h
          refine lv_lload hx hb dX1_spread_136 (lv_at hl 6 rfl) ?_
          refine lv_lload hx hb dX1_spread_138 (lv_at hl 5 rfl) ?_
          refine W.lcmp hx hb dX1_spread_140 ?_
          refine lv_if_ge (tgt := 169) hx hb dX1_spread_141 (by decide) (fun c_7 => ?_) (fun c_7 => ?_)
          · replace h := itp h c_7
            replace h := ex_eq h; obtain ⟨b2, h, hz2⟩ := h
            subst hz2
            have hz2 := (itk_inr hx2).symm
            subst hz2
            refine lv_iinc (v := x11 + 1) (lv' := [(11, .int (x11 + 1)), (2, .int x2), (3, .long x3), (7, .long x7), (9, .long x9), (14, .long x14), (16, .long x16)]) hx hb dX1_spread_169 hl (k := 4) rfl rfl (by decide) rfl (fun ls hl => ?_)
            refine lv_goto (tgt := 66) hx hb dX1_spread_172 (by decide) ?_
            obtain rfl := Option.some.inj h
            exact ih1 x7 x9 (x11 + 1) σ1 H locs ls hx1 hB (lv_sub hl [1, 2, 3, 4, 0] rfl)
          · replace h := itn h c_7
            refine lv_lload hx hb dX1_spread_144 (lv_at hl 2 rfl) ?_
            refine lv_iload_n hx hb dX1_spread_146 rfl (lv_at hl 0 rfl) ?_
            refine lv_i2l (v := x2.toInt64) hx hb dX1_spread_147 rfl ?_
            refine lv_lmul hx hb dX1_spread_148 ?_
            refine lv_iload_n hx hb dX1_spread_149 rfl (lv_at hl 0 rfl) ?_
            refine lv_i2l (v := x2.toInt64) hx hb dX1_spread_150 rfl ?_
            refine lv_ladd hx hb dX1_spread_151 ?_
            refine lv_lconst (v := 1) hx hb dX1_spread_152 (by decide) ?_
            refine lv_lsub hx hb dX1_spread_153 ?_
            refine lv_iload hx hb dX1_spread_154 (lv_at hl 4 rfl) ?_
            refine lv_i2l (v := x11.toInt64) hx hb dX1_spread_156 rfl ?_
            refine lv_lsub hx hb dX1_spread_157 ?_
            refine lv_lstore (lv' := [(7, .long ((((x7 * x2.toInt64) + x2.toInt64) - (1 : Int64)) - x11.toInt64)), (2, .int x2), (3, .long x3), (9, .long x9), (11, .int x11), (14, .long x14), (16, .long x16)]) hx hb dX1_spread_158 hl (by decide) rfl (fun ls hl => ?_)
            refine lv_lload hx hb dX1_spread_160 (lv_at hl 6 rfl) ?_
            refine lv_lconst (v := 1) hx hb dX1_spread_162 (by decide) ?_
            refine lv_ladd hx hb dX1_spread_163 ?_
            refine lv_lstore (lv' := [(16, .long (x16 + (1 : Int64))), (7, .long ((((x7 * x2.toInt64) + x2.toInt64) - (1 : Int64)) - x11.toInt64)), (2, .int x2), (3, .long x3), (9, .long x9), (11, .int x11), (14, .long x14)]) hx hb dX1_spread_164 hl (by decide) rfl (fun ls hl => ?_)
            refine lv_goto (tgt := 136) hx hb dX1_spread_166 (by decide) ?_
            obtain rfl := Option.some.inj h
            exact ih2 ((((x7 * x2.toInt64) + x2.toInt64) - (1 : Int64)) - x11.toInt64) (x16 + (1 : Int64)) σ1 H locs ls hx2 hB (lv_sub hl [2, 3, 1, 4, 5, 6, 0] rfl)
      have hL_105 : ∀ (x7 : Int64) (x11 : Int32) (x12 : Int64) (x14 : Int64) (n : Nat) (x9 : Int64) (x16 : Int64) (σ1 : Hp) (H : Heap) (locs : List Loc) (ls : Array Slot), iter (f_X1_spread_s105 x2 x3 x7 x11 x12 x14) n (x9, x16, σ1) = some z1 → tB g P σ1 A s.heap H locs → lv_has ls 18 [(2, .int x2), (3, .long x3), (7, .long x7), (9, .long x9), (11, .int x11), (12, .long x12), (14, .long x14), (16, .long x16)] → WQ p l e { frames := 0, cells := 0, slots := 0, locals := 0 } s m args below meth c g P A (some (.long r)) τ H locs (F0 m 105 ls []) := by
        intro x7 x11 x12 x14 n
        induction n with
        | zero =>
          intro x9 x16 σ1 H locs ls h hB hl
          exact (iter_0 h).elim
        | succ n ih2 =>
          intro x9 x16 σ1 H locs ls h hB hl
          replace h := iter_eq h; obtain ⟨z2, hh2, hx2⟩ := h
          have h : f_X1_spread_t105 x2 x3 x7 x11 x12 x14 x9 x16 σ1 = some z2 := hh2
          clear hh2
          unfold f_X1_spread_t105 at h
          refine lv_lload hx hb dX1_spread_105 (lv_at hl 7 rfl) ?_
          refine lv_lload hx hb dX1_spread_107 (lv_at hl 5 rfl) ?_
          refine W.lcmp hx hb dX1_spread_109 ?_
          refine lv_if_ge (tgt := 133) hx hb dX1_spread_110 (by decide) (fun c_6 => ?_) (fun c_6 => ?_)
          · replace h := itp h c_6
            replace h := ex_eq h; obtain ⟨b2, h, hz2⟩ := h
            subst hz2
            have hz2 := (itk_inr hx2).symm
            subst hz2
            refine lv_lconst (v := 0) hx hb dX1_spread_133 (by decide) ?_
            refine lv_lstore (lv' := [(16, .long (0 : Int64)), (2, .int x2), (3, .long x3), (7, .long x7), (9, .long x9), (11, .int x11), (12, .long x12), (14, .long x14)]) hx hb dX1_spread_134 hl (by decide) rfl (fun ls hl => ?_)
            exact hL_136 x9 x11 x14 fuel x7 (0 : Int64) σ1 H locs ls h hB (lv_sub hl [1, 2, 3, 4, 5, 7, 0] rfl)
          · replace h := itn h c_6
            refine lv_lload hx hb dX1_spread_113 (lv_at hl 3 rfl) ?_
            refine lv_iload_n hx hb dX1_spread_115 rfl (lv_at hl 0 rfl) ?_
            refine lv_i2l (v := x2.toInt64) hx hb dX1_spread_116 rfl ?_
            refine lv_lmul hx hb dX1_spread_117 ?_
            refine lv_iload hx hb dX1_spread_118 (lv_at hl 4 rfl) ?_
            refine lv_i2l (v := x11.toInt64) hx hb dX1_spread_120 rfl ?_
            refine lv_ladd hx hb dX1_spread_121 ?_
            refine lv_lstore (lv' := [(9, .long ((x9 * x2.toInt64) + x11.toInt64)), (2, .int x2), (3, .long x3), (7, .long x7), (11, .int x11), (12, .long x12), (14, .long x14), (16, .long x16)]) hx hb dX1_spread_122 hl (by decide) rfl (fun ls hl => ?_)
            refine lv_lload hx hb dX1_spread_124 (lv_at hl 7 rfl) ?_
            refine lv_lconst (v := 1) hx hb dX1_spread_126 (by decide) ?_
            refine lv_ladd hx hb dX1_spread_127 ?_
            refine lv_lstore (lv' := [(16, .long (x16 + (1 : Int64))), (9, .long ((x9 * x2.toInt64) + x11.toInt64)), (2, .int x2), (3, .long x3), (7, .long x7), (11, .int x11), (12, .long x12), (14, .long x14)]) hx hb dX1_spread_128 hl (by decide) rfl (fun ls hl => ?_)
            refine lv_goto (tgt := 105) hx hb dX1_spread_130 (by decide) ?_
            obtain rfl := Option.some.inj h
            exact ih2 ((x9 * x2.toInt64) + x11.toInt64) (x16 + (1 : Int64)) σ1 H locs ls hx2 hB (lv_sub hl [2, 3, 4, 1, 5, 6, 7, 0] rfl)
      have h : f_X1_spread_t66 x2 x3 x7 x9 x11 σ1 = some z1 := hh1
      clear hh1
      unfold f_X1_spread_t66 at h
      refine lv_iload hx hb dX1_spread_66 (lv_at hl 4 rfl) ?_
      refine lv_iload_n hx hb dX1_spread_68 rfl (lv_at hl 0 rfl) ?_
      refine lv_icmp_ge (tgt := 175) hx hb dX1_spread_69 (by decide) (fun c_5 => ?_) (fun c_5 => ?_)
      · replace h := itp h c_5
        replace h := ex_eq h; obtain ⟨b1, h, hz1⟩ := h
        subst hz1
        have hz1 := (itk_inr hx1).symm
        subst hz1
        refine lv_lload hx hb dX1_spread_175 (lv_at hl 2 rfl) ?_
        refine lv_lload hx hb dX1_spread_177 (lv_at hl 3 rfl) ?_
        refine lv_lsub hx hb dX1_spread_179 ?_
        obtain ⟨rfl, rfl⟩ := Prod.mk.inj (Option.some.inj h)
        exact W.lret hx hb hr (R_end hB) hB.2.2.2.2 dX1_spread_180
      · replace h := itn h c_5
        refine lv_lload_n hx hb dX1_spread_72 rfl (lv_at hl 1 rfl) ?_
        refine lv_bipush (v := 6) hx hb dX1_spread_73 (by decide) ?_
        refine lv_iload hx hb dX1_spread_75 (lv_at hl 4 rfl) ?_
        refine lv_imul hx hb dX1_spread_77 ?_
        refine lv_lushr (v := (x3.toUInt64 >>> (((6 : Int32) * x11).toInt64.toUInt64 &&& Int64.toUInt64 63)).toInt64) hx hb dX1_spread_78 rfl ?_
        refine lv_ldc2 (v := 63) hx hb hown (ht _ tw309) dX1_spread_79 ?_
        refine lv_land hx hb dX1_spread_82 ?_
        refine lv_lstore (lv' := [(12, .long ((x3.toUInt64 >>> (((6 : Int32) * x11).toInt64.toUInt64 &&& Int64.toUInt64 63)).toInt64 &&& (63 : Int64))), (2, .int x2), (3, .long x3), (7, .long x7), (9, .long x9), (11, .int x11)]) hx hb dX1_spread_83 hl (by decide) rfl (fun ls hl => ?_)
        refine lv_lload_n hx hb dX1_spread_85 rfl (lv_at hl 2 rfl) ?_
        refine lv_bipush (v := 6) hx hb dX1_spread_86 (by decide) ?_
        refine lv_iload_n hx hb dX1_spread_88 rfl (lv_at hl 1 rfl) ?_
        refine lv_iconst (v := 1) hx hb dX1_spread_89 (by decide) ?_
        refine lv_isub hx hb dX1_spread_90 ?_
        refine lv_iload hx hb dX1_spread_91 (lv_at hl 5 rfl) ?_
        refine lv_isub hx hb dX1_spread_93 ?_
        refine lv_imul hx hb dX1_spread_94 ?_
        refine lv_lushr (v := (x3.toUInt64 >>> (((6 : Int32) * ((x2 - (1 : Int32)) - x11)).toInt64.toUInt64 &&& Int64.toUInt64 63)).toInt64) hx hb dX1_spread_95 rfl ?_
        refine lv_ldc2 (v := 63) hx hb hown (ht _ tw309) dX1_spread_96 ?_
        refine lv_land hx hb dX1_spread_99 ?_
        refine lv_lstore (lv' := [(14, .long ((x3.toUInt64 >>> (((6 : Int32) * ((x2 - (1 : Int32)) - x11)).toInt64.toUInt64 &&& Int64.toUInt64 63)).toInt64 &&& (63 : Int64))), (12, .long ((x3.toUInt64 >>> (((6 : Int32) * x11).toInt64.toUInt64 &&& Int64.toUInt64 63)).toInt64 &&& (63 : Int64))), (2, .int x2), (3, .long x3), (7, .long x7), (9, .long x9), (11, .int x11)]) hx hb dX1_spread_100 hl (by decide) rfl (fun ls hl => ?_)
        refine lv_lconst (v := 0) hx hb dX1_spread_102 (by decide) ?_
        refine lv_lstore (lv' := [(16, .long (0 : Int64)), (14, .long ((x3.toUInt64 >>> (((6 : Int32) * ((x2 - (1 : Int32)) - x11)).toInt64.toUInt64 &&& Int64.toUInt64 63)).toInt64 &&& (63 : Int64))), (12, .long ((x3.toUInt64 >>> (((6 : Int32) * x11).toInt64.toUInt64 &&& Int64.toUInt64 63)).toInt64 &&& (63 : Int64))), (2, .int x2), (3, .long x3), (7, .long x7), (9, .long x9), (11, .int x11)]) hx hb dX1_spread_103 hl (by decide) rfl (fun ls hl => ?_)
        exact hL_105 x7 x11 ((x3.toUInt64 >>> (((6 : Int32) * x11).toInt64.toUInt64 &&& Int64.toUInt64 63)).toInt64 &&& (63 : Int64)) ((x3.toUInt64 >>> (((6 : Int32) * ((x2 - (1 : Int32)) - x11)).toInt64.toUInt64 &&& Int64.toUInt64 63)).toInt64 &&& (63 : Int64)) fuel x9 (0 : Int64) σ1 H locs ls h hB (lv_sub hl [3, 4, 5, 6, 7, 2, 1, 0] rfl)
  have hb_57 : ∀ (x2 : Int32) (x3 : Int64) (σ1 : Hp) (H : Heap) (locs : List Loc) (ls : Array Slot), f_X1_spread_b57 x2 x3 σ1 = some (r, τ) → tB g P σ1 A s.heap H locs → lv_has ls 18 [(2, .int x2), (3, .long x3)] → WQ p l e { frames := 0, cells := 0, slots := 0, locals := 0 } s m args below meth c g P A (some (.long r)) τ H locs (F0 m 57 ls []) := by
    intro x2 x3 σ1 H locs ls h hB hl
    unfold f_X1_spread_b57 at h
    refine lv_lconst (v := 0) hx hb dX1_spread_57 (by decide) ?_
    refine lv_lstore (lv' := [(7, .long (0 : Int64)), (2, .int x2), (3, .long x3)]) hx hb dX1_spread_58 hl (by decide) rfl (fun ls hl => ?_)
    refine lv_lconst (v := 0) hx hb dX1_spread_60 (by decide) ?_
    refine lv_lstore (lv' := [(9, .long (0 : Int64)), (7, .long (0 : Int64)), (2, .int x2), (3, .long x3)]) hx hb dX1_spread_61 hl (by decide) rfl (fun ls hl => ?_)
    refine lv_iconst (v := 0) hx hb dX1_spread_63 (by decide) ?_
    refine lv_istore (lv' := [(11, .int (0 : Int32)), (9, .long (0 : Int64)), (7, .long (0 : Int64)), (2, .int x2), (3, .long x3)]) hx hb dX1_spread_64 hl (by decide) rfl (fun ls hl => ?_)
    exact hL_66 x2 x3 fuel (0 : Int64) (0 : Int64) (0 : Int32) σ1 H locs ls h hB (lv_sub hl [3, 4, 2, 1, 0] rfl)
  have hL_15 : ∀ (x2 : Int32) (n : Nat) (x3 : Int64) (x5 : Int64) (x7 : Int32) (σ1 : Hp) (H : Heap) (locs : List Loc) (ls : Array Slot), iter (f_X1_spread_s15 x2) n (x3, x5, x7, σ1) = some (r, τ) → tB g P σ1 A s.heap H locs → lv_has ls 18 [(2, .int x2), (3, .long x3), (5, .long x5), (7, .int x7)] → WQ p l e { frames := 0, cells := 0, slots := 0, locals := 0 } s m args below meth c g P A (some (.long r)) τ H locs (F0 m 15 ls []) := by
    intro x2 n
    induction n with
    | zero =>
      intro x3 x5 x7 σ1 H locs ls h hB hl
      exact (iter_0 h).elim
    | succ n ih1 =>
      intro x3 x5 x7 σ1 H locs ls h hB hl
      replace h := iter_eq h; obtain ⟨z1, hh1, hx1⟩ := h
      have h : f_X1_spread_t15 x2 x3 x5 x7 σ1 = some z1 := hh1
      clear hh1
      unfold f_X1_spread_t15 at h
      refine lv_iload hx hb dX1_spread_15 (lv_at hl 3 rfl) ?_
      refine lv_bipush (v := 64) hx hb dX1_spread_17 (by decide) ?_
      refine lv_icmp_ge (tgt := 57) hx hb dX1_spread_19 (by decide) (fun c_4 => ?_) (fun c_4 => ?_)
      · replace h := itp h c_4
        replace h := ex_eq h; obtain ⟨b1, h, hz1⟩ := h
        subst hz1
        have hz1 := (itk_inr hx1).symm
        subst hz1
        exact hb_57 x2 x3 σ1 H locs ls h hB (lv_sub hl [0, 1] rfl)
      · replace h := itn h c_4
        refine lv_lload hx hb dX1_spread_22 (lv_at hl 2 rfl) ?_
        refine lv_lconst (v := 0) hx hb dX1_spread_24 (by decide) ?_
        refine W.lcmp hx hb dX1_spread_25 ?_
        refine lv_if_le (tgt := 57) hx hb dX1_spread_26 (by decide) (fun c_8 => ?_) (fun c_8 => ?_)
        · replace h := itp h c_8
          replace h := ex_eq h; obtain ⟨b1, h, hz1⟩ := h
          subst hz1
          have hz1 := (itk_inr hx1).symm
          subst hz1
          exact hb_57 x2 x3 σ1 H locs ls h hB (lv_sub hl [0, 1] rfl)
        · replace h := itn h c_8
          refine lv_lload_n hx hb dX1_spread_29 rfl (lv_at hl 1 rfl) ?_
          refine lv_lconst (v := 1) hx hb dX1_spread_30 (by decide) ?_
          refine lv_ldc2 (v := 6) hx hb hown (ht _ tw308) dX1_spread_31 ?_
          refine lv_lload hx hb dX1_spread_34 (lv_at hl 2 rfl) ?_
          refine lv_iload_n hx hb dX1_spread_36 rfl (lv_at hl 0 rfl) ?_
          refine lv_i2l (v := x2.toInt64) hx hb dX1_spread_37 rfl ?_
          replace h := ck_eq h; obtain ⟨q_9, h⟩ := h
          refine lv_lrem hx hb dX1_spread_38 q_9 ?_
          refine lv_lmul hx hb dX1_spread_39 ?_
          refine lv_l2i (v := ((6 : Int64) * (x5 - x5 / x2.toInt64 * x2.toInt64)).toInt32) hx hb dX1_spread_40 rfl ?_
          refine lv_lshl (v := ((1 : Int64) <<< ((((6 : Int64) * (x5 - x5 / x2.toInt64 * x2.toInt64)).toInt32).toInt64 &&& 63))) hx hb dX1_spread_41 rfl ?_
          refine lv_ladd hx hb dX1_spread_42 ?_
          refine lv_lstore_n (lv' := [(3, .long (x3 + ((1 : Int64) <<< ((((6 : Int64) * (x5 - x5 / x2.toInt64 * x2.toInt64)).toInt32).toInt64 &&& 63)))), (2, .int x2), (5, .long x5), (7, .int x7)]) hx hb dX1_spread_43 rfl hl (by decide) rfl (fun ls hl => ?_)
          refine lv_lload hx hb dX1_spread_44 (lv_at hl 2 rfl) ?_
          refine lv_iload_n hx hb dX1_spread_46 rfl (lv_at hl 1 rfl) ?_
          refine lv_i2l (v := x2.toInt64) hx hb dX1_spread_47 rfl ?_
          refine lv_ldiv hx hb dX1_spread_48 q_9 ?_
          refine lv_lstore (lv' := [(5, .long (x5 / x2.toInt64)), (3, .long (x3 + ((1 : Int64) <<< ((((6 : Int64) * (x5 - x5 / x2.toInt64 * x2.toInt64)).toInt32).toInt64 &&& 63)))), (2, .int x2), (7, .int x7)]) hx hb dX1_spread_49 hl (by decide) rfl (fun ls hl => ?_)
          refine lv_iinc (v := x7 + 1) (lv' := [(7, .int (x7 + 1)), (5, .long (x5 / x2.toInt64)), (3, .long (x3 + ((1 : Int64) <<< ((((6 : Int64) * (x5 - x5 / x2.toInt64 * x2.toInt64)).toInt32).toInt64 &&& 63)))), (2, .int x2)]) hx hb dX1_spread_51 hl (k := 3) rfl rfl (by decide) rfl (fun ls hl => ?_)
          refine lv_goto (tgt := 15) hx hb dX1_spread_54 (by decide) ?_
          obtain rfl := Option.some.inj h
          exact ih1 (x3 + ((1 : Int64) <<< ((((6 : Int64) * (x5 - x5 / x2.toInt64 * x2.toInt64)).toInt32).toInt64 &&& 63))) (x5 / x2.toInt64) (x7 + 1) σ1 H locs ls hx1 hB (lv_sub hl [3, 2, 1, 0] rfl)
  suffices hmain : ∀ (H : Heap) (locs : List Loc) (ls : Array Slot), tB g P σ A s.heap H locs → lv_has ls 18 [(0, .long a0), (2, .int a2)] → WQ p l e { frames := 0, cells := 0, slots := 0, locals := 0 } s m args below meth c g P A (some (.long r)) τ H locs (F0 m 0 ls []) from hmain _ _ ls0 hB0 hl0
  intro H locs ls hB hl
  unfold f_X1_spread at h
  refine lv_iload_n hx hb dX1_spread_0 rfl (lv_at hl 1 rfl) ?_
  refine lv_iconst (v := 2) hx hb dX1_spread_1 (by decide) ?_
  refine lv_icmp_ge (tgt := 7) hx hb dX1_spread_2 (by decide) (fun c_3 => ?_) (fun c_3 => ?_)
  · replace h := itp h c_3
    refine lv_lconst (v := 0) hx hb dX1_spread_7 (by decide) ?_
    refine lv_lstore_n (lv' := [(3, .long (0 : Int64)), (0, .long a0), (2, .int a2)]) hx hb dX1_spread_8 rfl hl (by decide) rfl (fun ls hl => ?_)
    refine lv_lload_n hx hb dX1_spread_9 rfl (lv_at hl 1 rfl) ?_
    refine lv_lstore (lv' := [(5, .long a0), (3, .long (0 : Int64)), (0, .long a0), (2, .int a2)]) hx hb dX1_spread_10 hl (by decide) rfl (fun ls hl => ?_)
    refine lv_iconst (v := 0) hx hb dX1_spread_12 (by decide) ?_
    refine lv_istore (lv' := [(7, .int (0 : Int32)), (5, .long a0), (3, .long (0 : Int64)), (0, .long a0), (2, .int a2)]) hx hb dX1_spread_13 hl (by decide) rfl (fun ls hl => ?_)
    exact hL_15 a2 fuel (0 : Int64) a0 (0 : Int32) σ H locs ls h hB (lv_sub hl [4, 2, 1, 0] rfl)
  · replace h := itn h c_3
    refine lv_lconst (v := 0) hx hb dX1_spread_5 (by decide) ?_
    obtain ⟨rfl, rfl⟩ := Prod.mk.inj (Option.some.inj h)
    exact W.lret hx hb hr (R_end hB) hB.2.2.2.2 dX1_spread_6
def f_X1_alikeFrom_t19 (x0 : Int64) (x2 : Int32) (x3 : Int32) (x4 : Int64) (x6 : Int32) (σ1 : Hp) : Option ((Int64 × Int32 × Hp) ⊕ (Int64 × Hp)) := if (x3 / (2 : Int32)) ≤ x6 then ex (b2 (f_X1_mirrored x4 x3 x2 σ1) (fun r_8 s_9 => if (lg_cmp r_8 x0) < 0 then b2 (f_X1_mirrored (x4 + (1 : Int64)) x3 x2 s_9) (fun r_12 s_13 => some (r_12, s_13)) else some (r_8, s_9))) else ck (¬ x2.toInt64 = 0) (some (.inl ((x4 / x2.toInt64), (x6 + 1), σ1)))
def f_X1_alikeFrom_s19 (x0 : Int64) (x2 : Int32) (x3 : Int32) (v : (Int64 × Int32 × Hp)) : Option ((Int64 × Int32 × Hp) ⊕ (Int64 × Hp)) := f_X1_alikeFrom_t19 x0 x2 x3 v.1 v.2.1 v.2.2
def f_X1_alikeFrom (a0 : Int64) (a2 : Int32) (σ : Hp) : Option (Int64 × Hp) := if (2 : Int32) ≤ a2 then b2 (f_X1_howMany a0 a2 σ) (fun r_4 s_5 => iter (f_X1_alikeFrom_s19 a0 a2 r_4) fuel (a0, (0 : Int32), s_5)) else some (a0, σ)
set_option maxHeartbeats 4000000 in
set_option maxRecDepth 100000 in
theorem c_X1_alikeFrom (l : Launch) (g : tG) (P : Nat → Nat) (σ : Hp) (a0 : Int64) (a2 : Int32) (sz : Nat) {r : Int64} {τ : Hp} (h : f_X1_alikeFrom a0 a2 σ = some (r, τ)) : Met l yX1_alikeFrom (Cond.code yX1_alikeFrom cX1_alikeFrom 8 (some .long) :: tblG) ({ frames := 1, cells := 0, slots := 0, locals := 28 }) (va_Pc [.long a0, .int a2] (tPre g P σ sz)) (tQ (some (.long r)) (tPost g P τ (va_A (wC g P σ) sz)) (va_A (wC g P σ) sz)) 0 0 (va_A (wC g P σ) sz) := by
  refine T_start (B := fun A => tPost g P τ A) (by decide) (Nat.le_of_ble_eq_true rfl) ?_
  intro p e s m args below meth c ls0 A hx hb hml hr hown hlocks ht hnm hK hZ hA hB0 hl0
  have hL_19 : ∀ (x0 : Int64) (x2 : Int32) (x3 : Int32) (n : Nat) (x4 : Int64) (x6 : Int32) (σ1 : Hp) (H : Heap) (locs : List Loc) (ls : Array Slot), iter (f_X1_alikeFrom_s19 x0 x2 x3) n (x4, x6, σ1) = some (r, τ) → tB g P σ1 A s.heap H locs → lv_has ls 8 [(0, .long x0), (2, .int x2), (3, .int x3), (4, .long x4), (6, .int x6)] → WQ p l e { frames := 1, cells := 0, slots := 0, locals := 28 } s m args below meth c g P A (some (.long r)) τ H locs (F0 m 19 ls []) := by
    intro x0 x2 x3 n
    induction n with
    | zero =>
      intro x4 x6 σ1 H locs ls h hB hl
      exact (iter_0 h).elim
    | succ n ih1 =>
      intro x4 x6 σ1 H locs ls h hB hl
      replace h := iter_eq h; obtain ⟨z1, hh1, hx1⟩ := h
      have h : f_X1_alikeFrom_t19 x0 x2 x3 x4 x6 σ1 = some z1 := hh1
      clear hh1
      unfold f_X1_alikeFrom_t19 at h
      refine lv_iload hx hb dX1_alikeFrom_19 (lv_at hl 4 rfl) ?_
      refine lv_iload_n hx hb dX1_alikeFrom_21 rfl (lv_at hl 2 rfl) ?_
      refine lv_iconst (v := 2) hx hb dX1_alikeFrom_22 (by decide) ?_
      refine lv_idiv hx hb dX1_alikeFrom_23 (by decide) ?_
      refine lv_icmp_ge (tgt := 40) hx hb dX1_alikeFrom_24 (by decide) (fun c_7 => ?_) (fun c_7 => ?_)
      · replace h := itp h c_7
        replace h := ex_eq h; obtain ⟨b1, h, hz1⟩ := h
        subst hz1
        have hz1 := (itk_inr hx1).symm
        subst hz1
        refine lv_lload hx hb dX1_alikeFrom_40 (lv_at hl 3 rfl) ?_
        refine lv_iload_n hx hb dX1_alikeFrom_42 rfl (lv_at hl 2 rfl) ?_
        refine lv_iload_n hx hb dX1_alikeFrom_43 rfl (lv_at hl 1 rfl) ?_
        replace h := b2_eq h; obtain ⟨r_8, s_9, hc_10, h⟩ := h
        refine R_call (rest := []) [.long r_8] (R_runS (n := 3) (As := [.long x4, .int x3, .int x2]) ⟨hx, hb, hml, hown, ht⟩ (fun _ h9 => h9) hK hZ hA hB (c_X1_mirrored l g P σ1 x4 x3 x2 H.size hc_10) tw650 tw648 tw649 tw8 ⟨by decide, by decide, by decide⟩ rfl rfl ⟨Nat.le_of_ble_eq_true rfl, Nat.le_of_ble_eq_true rfl⟩ rfl hl.1 rfl (Nat.le_of_ble_eq_true rfl) dX1_alikeFrom_44 ⟨Nat.zero_le _, Nat.zero_le _⟩) hB hA rfl (fun H locs hB => ?_)
        refine lv_lstore (lv' := [(6, .long r_8), (0, .long x0), (2, .int x2), (3, .int x3), (4, .long x4)]) hx hb dX1_alikeFrom_47 hl (by decide) rfl (fun ls hl => ?_)
        refine lv_lload hx hb dX1_alikeFrom_49 (lv_at hl 0 rfl) ?_
        refine lv_lload_n hx hb dX1_alikeFrom_51 rfl (lv_at hl 1 rfl) ?_
        refine W.lcmp hx hb dX1_alikeFrom_52 ?_
        refine lv_if_lt (tgt := 61) hx hb dX1_alikeFrom_53 (by decide) (fun c_11 => ?_) (fun c_11 => ?_)
        · replace h := itp h c_11
          refine lv_lload hx hb dX1_alikeFrom_61 (lv_at hl 4 rfl) ?_
          refine lv_lconst (v := 1) hx hb dX1_alikeFrom_63 (by decide) ?_
          refine lv_ladd hx hb dX1_alikeFrom_64 ?_
          refine lv_iload_n hx hb dX1_alikeFrom_65 rfl (lv_at hl 3 rfl) ?_
          refine lv_iload_n hx hb dX1_alikeFrom_66 rfl (lv_at hl 2 rfl) ?_
          replace h := b2_eq h; obtain ⟨r_12, s_13, hc_14, h⟩ := h
          refine R_call (rest := []) [.long r_12] (R_runS (n := 3) (As := [.long (x4 + (1 : Int64)), .int x3, .int x2]) ⟨hx, hb, hml, hown, ht⟩ (fun _ h9 => h9) hK hZ hA hB (c_X1_mirrored l g P s_9 (x4 + (1 : Int64)) x3 x2 H.size hc_14) tw650 tw648 tw649 tw8 ⟨by decide, by decide, by decide⟩ rfl rfl ⟨Nat.le_of_ble_eq_true rfl, Nat.le_of_ble_eq_true rfl⟩ rfl hl.1 rfl (Nat.le_of_ble_eq_true rfl) dX1_alikeFrom_67 ⟨Nat.zero_le _, Nat.zero_le _⟩) hB hA rfl (fun H locs hB => ?_)
          obtain ⟨rfl, rfl⟩ := Prod.mk.inj (Option.some.inj h)
          exact W.lret hx hb hr (R_end hB) hB.2.2.2.2 dX1_alikeFrom_70
        · replace h := itn h c_11
          refine lv_lload hx hb dX1_alikeFrom_56 (lv_at hl 0 rfl) ?_
          refine lv_goto (tgt := 70) hx hb dX1_alikeFrom_58 (by decide) ?_
          obtain ⟨rfl, rfl⟩ := Prod.mk.inj (Option.some.inj h)
          exact W.lret hx hb hr (R_end hB) hB.2.2.2.2 dX1_alikeFrom_70
      · replace h := itn h c_7
        refine lv_lload hx hb dX1_alikeFrom_27 (lv_at hl 3 rfl) ?_
        refine lv_iload_n hx hb dX1_alikeFrom_29 rfl (lv_at hl 1 rfl) ?_
        refine lv_i2l (v := x2.toInt64) hx hb dX1_alikeFrom_30 rfl ?_
        replace h := ck_eq h; obtain ⟨q_15, h⟩ := h
        refine lv_ldiv hx hb dX1_alikeFrom_31 q_15 ?_
        refine lv_lstore (lv' := [(4, .long (x4 / x2.toInt64)), (0, .long x0), (2, .int x2), (3, .int x3), (6, .int x6)]) hx hb dX1_alikeFrom_32 hl (by decide) rfl (fun ls hl => ?_)
        refine lv_iinc (v := x6 + 1) (lv' := [(6, .int (x6 + 1)), (4, .long (x4 / x2.toInt64)), (0, .long x0), (2, .int x2), (3, .int x3)]) hx hb dX1_alikeFrom_34 hl (k := 4) rfl rfl (by decide) rfl (fun ls hl => ?_)
        refine lv_goto (tgt := 19) hx hb dX1_alikeFrom_37 (by decide) ?_
        obtain rfl := Option.some.inj h
        exact ih1 (x4 / x2.toInt64) (x6 + 1) σ1 H locs ls hx1 hB (lv_sub hl [2, 3, 4, 1, 0] rfl)
  suffices hmain : ∀ (H : Heap) (locs : List Loc) (ls : Array Slot), tB g P σ A s.heap H locs → lv_has ls 8 [(0, .long a0), (2, .int a2)] → WQ p l e { frames := 1, cells := 0, slots := 0, locals := 28 } s m args below meth c g P A (some (.long r)) τ H locs (F0 m 0 ls []) from hmain _ _ ls0 hB0 hl0
  intro H locs ls hB hl
  unfold f_X1_alikeFrom at h
  refine lv_iload_n hx hb dX1_alikeFrom_0 rfl (lv_at hl 1 rfl) ?_
  refine lv_iconst (v := 2) hx hb dX1_alikeFrom_1 (by decide) ?_
  refine lv_icmp_ge (tgt := 7) hx hb dX1_alikeFrom_2 (by decide) (fun c_3 => ?_) (fun c_3 => ?_)
  · replace h := itp h c_3
    refine lv_lload_n hx hb dX1_alikeFrom_7 rfl (lv_at hl 0 rfl) ?_
    refine lv_iload_n hx hb dX1_alikeFrom_8 rfl (lv_at hl 1 rfl) ?_
    replace h := b2_eq h; obtain ⟨r_4, s_5, hc_6, h⟩ := h
    refine R_call (rest := []) [.int r_4] (R_runS (n := 2) (As := [.long a0, .int a2]) ⟨hx, hb, hml, hown, ht⟩ (fun _ h9 => h9) hK hZ hA hB (c_X1_howMany l g P σ a0 a2 H.size hc_6) tw631 tw647 tw630 tw8 ⟨by decide, by decide, by decide⟩ rfl rfl ⟨Nat.le_of_ble_eq_true rfl, Nat.le_of_ble_eq_true rfl⟩ rfl hl.1 rfl (Nat.le_of_ble_eq_true rfl) dX1_alikeFrom_9 ⟨Nat.zero_le _, Nat.zero_le _⟩) hB hA rfl (fun H locs hB => ?_)
    refine lv_istore_n (lv' := [(3, .int r_4), (0, .long a0), (2, .int a2)]) hx hb dX1_alikeFrom_12 rfl hl (by decide) rfl (fun ls hl => ?_)
    refine lv_lload_n hx hb dX1_alikeFrom_13 rfl (lv_at hl 1 rfl) ?_
    refine lv_lstore (lv' := [(4, .long a0), (3, .int r_4), (0, .long a0), (2, .int a2)]) hx hb dX1_alikeFrom_14 hl (by decide) rfl (fun ls hl => ?_)
    refine lv_iconst (v := 0) hx hb dX1_alikeFrom_16 (by decide) ?_
    refine lv_istore (lv' := [(6, .int (0 : Int32)), (4, .long a0), (3, .int r_4), (0, .long a0), (2, .int a2)]) hx hb dX1_alikeFrom_17 hl (by decide) rfl (fun ls hl => ?_)
    exact hL_19 a0 a2 r_4 fuel a0 (0 : Int32) s_5 H locs ls h hB (lv_sub hl [3, 4, 2, 1, 0] rfl)
  · replace h := itn h c_3
    refine lv_lload_n hx hb dX1_alikeFrom_5 rfl (lv_at hl 0 rfl) ?_
    obtain ⟨rfl, rfl⟩ := Prod.mk.inj (Option.some.inj h)
    exact W.lret hx hb hr (R_end hB) hB.2.2.2.2 dX1_alikeFrom_6
def f_X11_isNumber (a0 : Int64) (σ : Hp) : Option (Int32 × Hp) := if (lg_cmp a0 (0 : Int64)) < 0 then some ((0 : Int32), σ) else if 0 < (lg_cmp a0 (999999999999999 : Int64)) then some ((0 : Int32), σ) else some ((1 : Int32), σ)
set_option maxHeartbeats 4000000 in
set_option maxRecDepth 100000 in
theorem c_X11_isNumber (l : Launch) (g : tG) (P : Nat → Nat) (σ : Hp) (a0 : Int64) (sz : Nat) {r : Int32} {τ : Hp} (h : f_X11_isNumber a0 σ = some (r, τ)) : Met l yX11_isNumber (Cond.code yX11_isNumber cX11_isNumber 2 (some .boolean) :: tblG) ({ frames := 0, cells := 0, slots := 0, locals := 0 }) (va_Pc [.long a0] (tPre g P σ sz)) (tQ (some (.int r)) (tPost g P τ (va_A (wC g P σ) sz)) (va_A (wC g P σ) sz)) 0 0 (va_A (wC g P σ) sz) := by
  refine T_start (B := fun A => tPost g P τ A) (by decide) (Nat.le_of_ble_eq_true rfl) ?_
  intro p e s m args below meth c ls0 A hx hb hml hr hown hlocks ht hnm hK hZ hA hB0 hl0
  suffices hmain : ∀ (H : Heap) (locs : List Loc) (ls : Array Slot), tB g P σ A s.heap H locs → lv_has ls 2 [(0, .long a0)] → WQ p l e { frames := 0, cells := 0, slots := 0, locals := 0 } s m args below meth c g P A (some (.int r)) τ H locs (F0 m 0 ls []) from hmain _ _ ls0 hB0 hl0
  intro H locs ls hB hl
  unfold f_X11_isNumber at h
  refine lv_lload_n hx hb dX11_isNumber_0 rfl (lv_at hl 0 rfl) ?_
  refine lv_lconst (v := 0) hx hb dX11_isNumber_1 (by decide) ?_
  refine W.lcmp hx hb dX11_isNumber_2 ?_
  refine lv_if_lt (tgt := 18) hx hb dX11_isNumber_3 (by decide) (fun c_1 => ?_) (fun c_1 => ?_)
  · replace h := itp h c_1
    refine lv_iconst (v := 0) hx hb dX11_isNumber_18 (by decide) ?_
    obtain ⟨rfl, rfl⟩ := Prod.mk.inj (Option.some.inj h)
    exact W.zret hx hb hr rfl (R_end hB) hB.2.2.2.2 dX11_isNumber_19
  · replace h := itn h c_1
    refine lv_lload_n hx hb dX11_isNumber_6 rfl (lv_at hl 0 rfl) ?_
    refine lv_ldc2 (v := 999999999999999) hx hb hown (ht _ tw623) dX11_isNumber_7 ?_
    refine W.lcmp hx hb dX11_isNumber_10 ?_
    refine lv_if_gt (tgt := 18) hx hb dX11_isNumber_11 (by decide) (fun c_2 => ?_) (fun c_2 => ?_)
    · replace h := itp h c_2
      refine lv_iconst (v := 0) hx hb dX11_isNumber_18 (by decide) ?_
      obtain ⟨rfl, rfl⟩ := Prod.mk.inj (Option.some.inj h)
      exact W.zret hx hb hr rfl (R_end hB) hB.2.2.2.2 dX11_isNumber_19
    · replace h := itn h c_2
      refine lv_iconst (v := 1) hx hb dX11_isNumber_14 (by decide) ?_
      refine lv_goto (tgt := 19) hx hb dX11_isNumber_15 (by decide) ?_
      obtain ⟨rfl, rfl⟩ := Prod.mk.inj (Option.some.inj h)
      exact W.zret hx hb hr rfl (R_end hB) hB.2.2.2.2 dX11_isNumber_19
def f_X1_missedSlips_b135 (x0 : Int64) (x2 : Int32) (x3 : Int32) (x4 : Int32) (x5 : Int64) (x7 : Int64) (x9 : Int32) (x10 : Int64) (x13 : Int32) (σ1 : Hp) : Option ((Int32 × Int32 × Hp) ⊕ ((Int32 × Int64 × Int64 × Int32 × Hp) ⊕ (Int32 × Hp))) := some (.inl (x4, (x13 + 1), σ1))
def f_X1_missedSlips_b109 (x0 : Int64) (x2 : Int32) (x3 : Int32) (x4 : Int32) (x5 : Int64) (x7 : Int64) (x9 : Int32) (x10 : Int64) (x13 : Int32) (x14 : Int64) (xt0 : Int32) (σ1 : Hp) : Option ((Int32 × Int32 × Hp) ⊕ ((Int32 × Int64 × Int64 × Int32 × Hp) ⊕ (Int32 × Hp))) := if xt0 = 0 then f_X1_missedSlips_b135 x0 x2 x3 x4 x5 x7 x9 x10 x13 σ1 else ck (¬ x2.toInt64 = 0) (if (lg_cmp (((x9 + (1 : Int32)).toInt64 * x14) - ((x9 + (1 : Int32)).toInt64 * x14) / x2.toInt64 * x2.toInt64) (0 : Int64)) = 0 then f_X1_missedSlips_b135 x0 x2 x3 (x4 + 1) x5 x7 x9 x10 x13 σ1 else f_X1_missedSlips_b135 x0 x2 x3 x4 x5 x7 x9 x10 x13 σ1)
def f_X1_missedSlips_b108 (x0 : Int64) (x2 : Int32) (x3 : Int32) (x4 : Int32) (x5 : Int64) (x7 : Int64) (x9 : Int32) (x10 : Int64) (x13 : Int32) (x14 : Int64) (σ1 : Hp) : Option ((Int32 × Int32 × Hp) ⊕ ((Int32 × Int64 × Int64 × Int32 × Hp) ⊕ (Int32 × Hp))) := f_X1_missedSlips_b109 x0 x2 x3 x4 x5 x7 x9 x10 x13 x14 (0 : Int32) σ1
def f_X1_missedSlips_t70 (x0 : Int64) (x2 : Int32) (x3 : Int32) (x5 : Int64) (x7 : Int64) (x9 : Int32) (x10 : Int64) (x4 : Int32) (x13 : Int32) (σ1 : Hp) : Option ((Int32 × Int32 × Hp) ⊕ ((Int32 × Int64 × Int64 × Int32 × Hp) ⊕ (Int32 × Hp))) := if x2 ≤ x13 then ex (ck (¬ x2.toInt64 = 0) (some (.inl (x4, (x5 * x2.toInt64), (x7 / x2.toInt64), (x9 + 1), σ1)))) else if (lg_cmp (x13.toInt64 - x10) (0 : Int64)) = 0 then f_X1_missedSlips_b108 x0 x2 x3 x4 x5 x7 x9 x10 x13 (x13.toInt64 - x10) σ1 else b2 (f_X11_isNumber (x0 + ((x13.toInt64 - x10) * x5)) σ1) (fun r_18 s_19 => if r_18 = 0 then f_X1_missedSlips_b108 x0 x2 x3 x4 x5 x7 x9 x10 x13 (x13.toInt64 - x10) s_19 else f_X1_missedSlips_b109 x0 x2 x3 x4 x5 x7 x9 x10 x13 (x13.toInt64 - x10) (1 : Int32) s_19)
def f_X1_missedSlips_s70 (x0 : Int64) (x2 : Int32) (x3 : Int32) (x5 : Int64) (x7 : Int64) (x9 : Int32) (x10 : Int64) (v : (Int32 × Int32 × Hp)) : Option ((Int32 × Int32 × Hp) ⊕ ((Int32 × Int64 × Int64 × Int32 × Hp) ⊕ (Int32 × Hp))) := f_X1_missedSlips_t70 x0 x2 x3 x5 x7 x9 x10 v.1 v.2.1 v.2.2
def f_X1_missedSlips_b68 (x0 : Int64) (x2 : Int32) (x3 : Int32) (x4 : Int32) (x5 : Int64) (x7 : Int64) (x9 : Int32) (x10 : Int64) (xt0 : Int32) (σ1 : Hp) : Option ((Int32 × Int64 × Int64 × Int32 × Hp) ⊕ (Int32 × Hp)) := iter (f_X1_missedSlips_s70 x0 x2 x3 x5 x7 x9 x10) fuel (x4, xt0, σ1)
def f_X1_missedSlips_b56 (x0 : Int64) (x2 : Int32) (x3 : Int32) (x4 : Int32) (x5 : Int64) (x7 : Int64) (x9 : Int32) (x10 : Int64) (xt0 : Int32) (σ1 : Hp) : Option ((Int32 × Int64 × Int64 × Int32 × Hp) ⊕ (Int32 × Hp)) := if xt0 = 0 then f_X1_missedSlips_b68 x0 x2 x3 x4 x5 x7 x9 x10 (0 : Int32) σ1 else f_X1_missedSlips_b68 x0 x2 x3 x4 x5 x7 x9 x10 (1 : Int32) σ1
def f_X1_missedSlips_b55 (x0 : Int64) (x2 : Int32) (x3 : Int32) (x4 : Int32) (x5 : Int64) (x7 : Int64) (x9 : Int32) (x10 : Int64) (σ1 : Hp) : Option ((Int32 × Int64 × Int64 × Int32 × Hp) ⊕ (Int32 × Hp)) := f_X1_missedSlips_b56 x0 x2 x3 x4 x5 x7 x9 x10 (0 : Int32) σ1
def f_X1_missedSlips_t25 (x0 : Int64) (x2 : Int32) (x3 : Int32) (x4 : Int32) (x5 : Int64) (x7 : Int64) (x9 : Int32) (σ1 : Hp) : Option ((Int32 × Int64 × Int64 × Int32 × Hp) ⊕ (Int32 × Hp)) := if x3 ≤ x9 then ex (some (x4, σ1)) else ck (¬ x2.toInt64 = 0) (if x3 ≤ (1 : Int32) then f_X1_missedSlips_b55 x0 x2 x3 x4 x5 x7 x9 (x7 - x7 / x2.toInt64 * x2.toInt64) σ1 else if x9 = (x3 - (1 : Int32)) then f_X1_missedSlips_b56 x0 x2 x3 x4 x5 x7 x9 (x7 - x7 / x2.toInt64 * x2.toInt64) (1 : Int32) σ1 else f_X1_missedSlips_b55 x0 x2 x3 x4 x5 x7 x9 (x7 - x7 / x2.toInt64 * x2.toInt64) σ1)
def f_X1_missedSlips_s25 (x0 : Int64) (x2 : Int32) (x3 : Int32) (v : (Int32 × Int64 × Int64 × Int32 × Hp)) : Option ((Int32 × Int64 × Int64 × Int32 × Hp) ⊕ (Int32 × Hp)) := f_X1_missedSlips_t25 x0 x2 x3 v.1 v.2.1 v.2.2.1 v.2.2.2.1 v.2.2.2.2
def f_X1_missedSlips (a0 : Int64) (a2 : Int32) (σ : Hp) : Option (Int32 × Hp) := if (2 : Int32) ≤ a2 then b2 (f_X1_howMany a0 a2 σ) (fun r_5 s_6 => iter (f_X1_missedSlips_s25 a0 a2 r_5) fuel ((0 : Int32), (1 : Int64), a0, (0 : Int32), s_6)) else some ((0 : Int32), σ)
set_option maxHeartbeats 4000000 in
set_option maxRecDepth 100000 in
theorem c_X1_missedSlips (l : Launch) (g : tG) (P : Nat → Nat) (σ : Hp) (a0 : Int64) (a2 : Int32) (sz : Nat) {r : Int32} {τ : Hp} (h : f_X1_missedSlips a0 a2 σ = some (r, τ)) : Met l yX1_missedSlips (Cond.code yX1_missedSlips cX1_missedSlips 17 (some .int) :: tblG) ({ frames := 1, cells := 0, slots := 0, locals := 25 }) (va_Pc [.long a0, .int a2] (tPre g P σ sz)) (tQ (some (.int r)) (tPost g P τ (va_A (wC g P σ) sz)) (va_A (wC g P σ) sz)) 0 0 (va_A (wC g P σ) sz) := by
  refine T_start (B := fun A => tPost g P τ A) (by decide) (Nat.le_of_ble_eq_true rfl) ?_
  intro p e s m args below meth c ls0 A hx hb hml hr hown hlocks ht hnm hK hZ hA hB0 hl0
  have hL_25 : ∀ (x0 : Int64) (x2 : Int32) (x3 : Int32) (n : Nat) (x4 : Int32) (x5 : Int64) (x7 : Int64) (x9 : Int32) (σ1 : Hp) (H : Heap) (locs : List Loc) (ls : Array Slot), iter (f_X1_missedSlips_s25 x0 x2 x3) n (x4, x5, x7, x9, σ1) = some (r, τ) → tB g P σ1 A s.heap H locs → lv_has ls 17 [(0, .long x0), (2, .int x2), (3, .int x3), (4, .int x4), (5, .long x5), (7, .long x7), (9, .int x9)] → WQ p l e { frames := 1, cells := 0, slots := 0, locals := 25 } s m args below meth c g P A (some (.int r)) τ H locs (F0 m 25 ls []) := by
    intro x0 x2 x3 n
    induction n with
    | zero =>
      intro x4 x5 x7 x9 σ1 H locs ls h hB hl
      exact (iter_0 h).elim
    | succ n ih1 =>
      intro x4 x5 x7 x9 σ1 H locs ls h hB hl
      replace h := iter_eq h; obtain ⟨z1, hh1, hx1⟩ := h
      have hL_70 : ∀ (x5 : Int64) (x7 : Int64) (x9 : Int32) (x10 : Int64) (n : Nat) (x4 : Int32) (x13 : Int32) (σ1 : Hp) (H : Heap) (locs : List Loc) (ls : Array Slot), iter (f_X1_missedSlips_s70 x0 x2 x3 x5 x7 x9 x10) n (x4, x13, σ1) = some z1 → tB g P σ1 A s.heap H locs → lv_has ls 17 [(0, .long x0), (2, .int x2), (3, .int x3), (4, .int x4), (5, .long x5), (7, .long x7), (9, .int x9), (10, .long x10), (13, .int x13)] → WQ p l e { frames := 1, cells := 0, slots := 0, locals := 25 } s m args below meth c g P A (some (.int r)) τ H locs (F0 m 70 ls []) := by
        intro x5 x7 x9 x10 n
        induction n with
        | zero =>
          intro x4 x13 σ1 H locs ls h hB hl
          exact (iter_0 h).elim
        | succ n ih2 =>
          intro x4 x13 σ1 H locs ls h hB hl
          replace h := iter_eq h; obtain ⟨z2, hh2, hx2⟩ := h
          have hb_135 : ∀ (x4 : Int32) (x13 : Int32) (σ1 : Hp) (H : Heap) (locs : List Loc) (ls : Array Slot), f_X1_missedSlips_b135 x0 x2 x3 x4 x5 x7 x9 x10 x13 σ1 = some z2 → tB g P σ1 A s.heap H locs → lv_has ls 17 [(0, .long x0), (2, .int x2), (3, .int x3), (4, .int x4), (5, .long x5), (7, .long x7), (9, .int x9), (10, .long x10), (13, .int x13)] → WQ p l e { frames := 1, cells := 0, slots := 0, locals := 25 } s m args below meth c g P A (some (.int r)) τ H locs (F0 m 135 ls []) := by
            intro x4 x13 σ1 H locs ls h hB hl
            unfold f_X1_missedSlips_b135 at h
            refine lv_iinc (v := x13 + 1) (lv' := [(13, .int (x13 + 1)), (0, .long x0), (2, .int x2), (3, .int x3), (4, .int x4), (5, .long x5), (7, .long x7), (9, .int x9), (10, .long x10)]) hx hb dX1_missedSlips_135 hl (k := 8) rfl rfl (by decide) rfl (fun ls hl => ?_)
            refine lv_goto (tgt := 70) hx hb dX1_missedSlips_138 (by decide) ?_
            obtain rfl := Option.some.inj h
            exact ih2 x4 (x13 + 1) σ1 H locs ls hx2 hB (lv_sub hl [1, 2, 3, 4, 5, 6, 7, 8, 0] rfl)
          have hb_109 : ∀ (x4 : Int32) (x13 : Int32) (x14 : Int64) (xt0 : Int32) (σ1 : Hp) (H : Heap) (locs : List Loc) (ls : Array Slot), f_X1_missedSlips_b109 x0 x2 x3 x4 x5 x7 x9 x10 x13 x14 xt0 σ1 = some z2 → tB g P σ1 A s.heap H locs → lv_has ls 17 [(0, .long x0), (2, .int x2), (3, .int x3), (4, .int x4), (5, .long x5), (7, .long x7), (9, .int x9), (10, .long x10), (13, .int x13), (14, .long x14)] → WQ p l e { frames := 1, cells := 0, slots := 0, locals := 25 } s m args below meth c g P A (some (.int r)) τ H locs (F0 m 109 ls [.int xt0]) := by
            intro x4 x13 x14 xt0 σ1 H locs ls h hB hl
            unfold f_X1_missedSlips_b109 at h
            refine lv_istore (lv' := [(16, .int xt0), (0, .long x0), (2, .int x2), (3, .int x3), (4, .int x4), (5, .long x5), (7, .long x7), (9, .int x9), (10, .long x10), (13, .int x13), (14, .long x14)]) hx hb dX1_missedSlips_109 hl (by decide) rfl (fun ls hl => ?_)
            refine lv_iload hx hb dX1_missedSlips_111 (lv_at hl 0 rfl) ?_
            refine lv_if_eq (tgt := 135) hx hb dX1_missedSlips_113 (by decide) (fun c_15 => ?_) (fun c_15 => ?_)
            · replace h := itp h c_15
              exact hb_135 x4 x13 σ1 H locs ls h hB (lv_sub hl [1, 2, 3, 4, 5, 6, 7, 8, 9] rfl)
            · replace h := itn h c_15
              refine lv_iload hx hb dX1_missedSlips_116 (lv_at hl 7 rfl) ?_
              refine lv_iconst (v := 1) hx hb dX1_missedSlips_118 (by decide) ?_
              refine lv_iadd hx hb dX1_missedSlips_119 ?_
              refine lv_i2l (v := (x9 + (1 : Int32)).toInt64) hx hb dX1_missedSlips_120 rfl ?_
              refine lv_lload hx hb dX1_missedSlips_121 (lv_at hl 10 rfl) ?_
              refine lv_lmul hx hb dX1_missedSlips_123 ?_
              refine lv_iload_n hx hb dX1_missedSlips_124 rfl (lv_at hl 2 rfl) ?_
              refine lv_i2l (v := x2.toInt64) hx hb dX1_missedSlips_125 rfl ?_
              replace h := ck_eq h; obtain ⟨q_16, h⟩ := h
              refine lv_lrem hx hb dX1_missedSlips_126 q_16 ?_
              refine lv_lconst (v := 0) hx hb dX1_missedSlips_127 (by decide) ?_
              refine W.lcmp hx hb dX1_missedSlips_128 ?_
              refine lv_if_ne (tgt := 135) hx hb dX1_missedSlips_129 (by decide) (fun c_17 => ?_) (fun c_17 => ?_)
              · replace h := itn h c_17
                exact hb_135 x4 x13 σ1 H locs ls h hB (lv_sub hl [1, 2, 3, 4, 5, 6, 7, 8, 9] rfl)
              · replace h := itp h c_17
                refine lv_iinc (v := x4 + 1) (lv' := [(4, .int (x4 + 1)), (16, .int xt0), (0, .long x0), (2, .int x2), (3, .int x3), (5, .long x5), (7, .long x7), (9, .int x9), (10, .long x10), (13, .int x13), (14, .long x14)]) hx hb dX1_missedSlips_132 hl (k := 4) rfl rfl (by decide) rfl (fun ls hl => ?_)
                exact hb_135 (x4 + 1) x13 σ1 H locs ls h hB (lv_sub hl [2, 3, 4, 0, 5, 6, 7, 8, 9] rfl)
          have hb_108 : ∀ (x4 : Int32) (x13 : Int32) (x14 : Int64) (σ1 : Hp) (H : Heap) (locs : List Loc) (ls : Array Slot), f_X1_missedSlips_b108 x0 x2 x3 x4 x5 x7 x9 x10 x13 x14 σ1 = some z2 → tB g P σ1 A s.heap H locs → lv_has ls 17 [(0, .long x0), (2, .int x2), (3, .int x3), (4, .int x4), (5, .long x5), (7, .long x7), (9, .int x9), (10, .long x10), (13, .int x13), (14, .long x14)] → WQ p l e { frames := 1, cells := 0, slots := 0, locals := 25 } s m args below meth c g P A (some (.int r)) τ H locs (F0 m 108 ls []) := by
            intro x4 x13 x14 σ1 H locs ls h hB hl
            unfold f_X1_missedSlips_b108 at h
            refine lv_iconst (v := 0) hx hb dX1_missedSlips_108 (by decide) ?_
            exact hb_109 x4 x13 x14 (0 : Int32) σ1 H locs ls h hB (lv_sub hl [0, 1, 2, 3, 4, 5, 6, 7, 8, 9] rfl)
          have h : f_X1_missedSlips_t70 x0 x2 x3 x5 x7 x9 x10 x4 x13 σ1 = some z2 := hh2
          clear hh2
          unfold f_X1_missedSlips_t70 at h
          refine lv_iload hx hb dX1_missedSlips_70 (lv_at hl 8 rfl) ?_
          refine lv_iload_n hx hb dX1_missedSlips_72 rfl (lv_at hl 1 rfl) ?_
          refine lv_icmp_ge (tgt := 141) hx hb dX1_missedSlips_73 (by decide) (fun c_12 => ?_) (fun c_12 => ?_)
          · replace h := itp h c_12
            replace h := ex_eq h; obtain ⟨b2, h, hz2⟩ := h
            subst hz2
            have hz2 := (itk_inr hx2).symm
            subst hz2
            refine lv_lload hx hb dX1_missedSlips_141 (lv_at hl 5 rfl) ?_
            refine lv_iload_n hx hb dX1_missedSlips_143 rfl (lv_at hl 1 rfl) ?_
            refine lv_i2l (v := x2.toInt64) hx hb dX1_missedSlips_144 rfl ?_
            replace h := ck_eq h; obtain ⟨q_13, h⟩ := h
            refine lv_ldiv hx hb dX1_missedSlips_145 q_13 ?_
            refine lv_lstore (lv' := [(7, .long (x7 / x2.toInt64)), (0, .long x0), (2, .int x2), (3, .int x3), (4, .int x4), (5, .long x5), (9, .int x9), (10, .long x10), (13, .int x13)]) hx hb dX1_missedSlips_146 hl (by decide) rfl (fun ls hl => ?_)
            refine lv_lload hx hb dX1_missedSlips_148 (lv_at hl 5 rfl) ?_
            refine lv_iload_n hx hb dX1_missedSlips_150 rfl (lv_at hl 2 rfl) ?_
            refine lv_i2l (v := x2.toInt64) hx hb dX1_missedSlips_151 rfl ?_
            refine lv_lmul hx hb dX1_missedSlips_152 ?_
            refine lv_lstore (lv' := [(5, .long (x5 * x2.toInt64)), (7, .long (x7 / x2.toInt64)), (0, .long x0), (2, .int x2), (3, .int x3), (4, .int x4), (9, .int x9), (10, .long x10), (13, .int x13)]) hx hb dX1_missedSlips_153 hl (by decide) rfl (fun ls hl => ?_)
            refine lv_iinc (v := x9 + 1) (lv' := [(9, .int (x9 + 1)), (5, .long (x5 * x2.toInt64)), (7, .long (x7 / x2.toInt64)), (0, .long x0), (2, .int x2), (3, .int x3), (4, .int x4), (10, .long x10), (13, .int x13)]) hx hb dX1_missedSlips_155 hl (k := 6) rfl rfl (by decide) rfl (fun ls hl => ?_)
            refine lv_goto (tgt := 25) hx hb dX1_missedSlips_158 (by decide) ?_
            obtain rfl := Option.some.inj h
            exact ih1 x4 (x5 * x2.toInt64) (x7 / x2.toInt64) (x9 + 1) σ1 H locs ls hx1 hB (lv_sub hl [3, 4, 5, 6, 1, 2, 0] rfl)
          · replace h := itn h c_12
            refine lv_iload hx hb dX1_missedSlips_76 (lv_at hl 8 rfl) ?_
            refine lv_i2l (v := x13.toInt64) hx hb dX1_missedSlips_78 rfl ?_
            refine lv_lload hx hb dX1_missedSlips_79 (lv_at hl 7 rfl) ?_
            refine lv_lsub hx hb dX1_missedSlips_81 ?_
            refine lv_lstore (lv' := [(14, .long (x13.toInt64 - x10)), (0, .long x0), (2, .int x2), (3, .int x3), (4, .int x4), (5, .long x5), (7, .long x7), (9, .int x9), (10, .long x10), (13, .int x13)]) hx hb dX1_missedSlips_82 hl (by decide) rfl (fun ls hl => ?_)
            refine lv_lload hx hb dX1_missedSlips_84 (lv_at hl 0 rfl) ?_
            refine lv_lconst (v := 0) hx hb dX1_missedSlips_86 (by decide) ?_
            refine W.lcmp hx hb dX1_missedSlips_87 ?_
            refine lv_if_eq (tgt := 108) hx hb dX1_missedSlips_88 (by decide) (fun c_14 => ?_) (fun c_14 => ?_)
            · replace h := itp h c_14
              exact hb_108 x4 x13 (x13.toInt64 - x10) σ1 H locs ls h hB (lv_sub hl [1, 2, 3, 4, 5, 6, 7, 8, 9, 0] rfl)
            · replace h := itn h c_14
              refine lv_lload_n hx hb dX1_missedSlips_91 rfl (lv_at hl 1 rfl) ?_
              refine lv_lload hx hb dX1_missedSlips_92 (lv_at hl 0 rfl) ?_
              refine lv_lload hx hb dX1_missedSlips_94 (lv_at hl 5 rfl) ?_
              refine lv_lmul hx hb dX1_missedSlips_96 ?_
              refine lv_ladd hx hb dX1_missedSlips_97 ?_
              replace h := b2_eq h; obtain ⟨r_18, s_19, hc_20, h⟩ := h
              refine R_call (rest := []) [.int r_18] (R_runSN (host := "TurnedAbout") (n := 1) (As := [.long (x0 + ((x13.toInt64 - x10) * x5))]) ⟨hx, hb, hml, hown, ht⟩ (fun _ h9 => h9) hK hZ hA hB (c_X11_isNumber l g P σ1 (x0 + ((x13.toInt64 - x10) * x5)) H.size hc_20) tw622 hK.2.1 tw621 tw1 ⟨by decide, by decide, by decide⟩ rfl rfl ⟨Nat.le_of_ble_eq_true rfl, Nat.le_of_ble_eq_true rfl⟩ rfl hl.1 rfl (Nat.le_of_ble_eq_true rfl) dX1_missedSlips_98 ⟨Nat.zero_le _, Nat.zero_le _⟩) hB hA rfl (fun H locs hB => ?_)
              refine lv_if_eq (tgt := 108) hx hb dX1_missedSlips_101 (by decide) (fun c_21 => ?_) (fun c_21 => ?_)
              · replace h := itp h c_21
                exact hb_108 x4 x13 (x13.toInt64 - x10) s_19 H locs ls h hB (lv_sub hl [1, 2, 3, 4, 5, 6, 7, 8, 9, 0] rfl)
              · replace h := itn h c_21
                refine lv_iconst (v := 1) hx hb dX1_missedSlips_104 (by decide) ?_
                refine lv_goto (tgt := 109) hx hb dX1_missedSlips_105 (by decide) ?_
                exact hb_109 x4 x13 (x13.toInt64 - x10) (1 : Int32) s_19 H locs ls h hB (lv_sub hl [1, 2, 3, 4, 5, 6, 7, 8, 9, 0] rfl)
      have hb_68 : ∀ (x4 : Int32) (x5 : Int64) (x7 : Int64) (x9 : Int32) (x10 : Int64) (xt0 : Int32) (σ1 : Hp) (H : Heap) (locs : List Loc) (ls : Array Slot), f_X1_missedSlips_b68 x0 x2 x3 x4 x5 x7 x9 x10 xt0 σ1 = some z1 → tB g P σ1 A s.heap H locs → lv_has ls 17 [(0, .long x0), (2, .int x2), (3, .int x3), (4, .int x4), (5, .long x5), (7, .long x7), (9, .int x9), (10, .long x10)] → WQ p l e { frames := 1, cells := 0, slots := 0, locals := 25 } s m args below meth c g P A (some (.int r)) τ H locs (F0 m 68 ls [.int xt0]) := by
        intro x4 x5 x7 x9 x10 xt0 σ1 H locs ls h hB hl
        unfold f_X1_missedSlips_b68 at h
        refine lv_istore (lv' := [(13, .int xt0), (0, .long x0), (2, .int x2), (3, .int x3), (4, .int x4), (5, .long x5), (7, .long x7), (9, .int x9), (10, .long x10)]) hx hb dX1_missedSlips_68 hl (by decide) rfl (fun ls hl => ?_)
        exact hL_70 x5 x7 x9 x10 fuel x4 xt0 σ1 H locs ls h hB (lv_sub hl [1, 2, 3, 4, 5, 6, 7, 8, 0] rfl)
      have hb_56 : ∀ (x4 : Int32) (x5 : Int64) (x7 : Int64) (x9 : Int32) (x10 : Int64) (xt0 : Int32) (σ1 : Hp) (H : Heap) (locs : List Loc) (ls : Array Slot), f_X1_missedSlips_b56 x0 x2 x3 x4 x5 x7 x9 x10 xt0 σ1 = some z1 → tB g P σ1 A s.heap H locs → lv_has ls 17 [(0, .long x0), (2, .int x2), (3, .int x3), (4, .int x4), (5, .long x5), (7, .long x7), (9, .int x9), (10, .long x10)] → WQ p l e { frames := 1, cells := 0, slots := 0, locals := 25 } s m args below meth c g P A (some (.int r)) τ H locs (F0 m 56 ls [.int xt0]) := by
        intro x4 x5 x7 x9 x10 xt0 σ1 H locs ls h hB hl
        unfold f_X1_missedSlips_b56 at h
        refine lv_istore (lv' := [(12, .int xt0), (0, .long x0), (2, .int x2), (3, .int x3), (4, .int x4), (5, .long x5), (7, .long x7), (9, .int x9), (10, .long x10)]) hx hb dX1_missedSlips_56 hl (by decide) rfl (fun ls hl => ?_)
        refine lv_iload hx hb dX1_missedSlips_58 (lv_at hl 0 rfl) ?_
        refine lv_if_eq (tgt := 67) hx hb dX1_missedSlips_60 (by decide) (fun c_11 => ?_) (fun c_11 => ?_)
        · replace h := itp h c_11
          refine lv_iconst (v := 0) hx hb dX1_missedSlips_67 (by decide) ?_
          exact hb_68 x4 x5 x7 x9 x10 (0 : Int32) σ1 H locs ls h hB (lv_sub hl [1, 2, 3, 4, 5, 6, 7, 8] rfl)
        · replace h := itn h c_11
          refine lv_iconst (v := 1) hx hb dX1_missedSlips_63 (by decide) ?_
          refine lv_goto (tgt := 68) hx hb dX1_missedSlips_64 (by decide) ?_
          exact hb_68 x4 x5 x7 x9 x10 (1 : Int32) σ1 H locs ls h hB (lv_sub hl [1, 2, 3, 4, 5, 6, 7, 8] rfl)
      have hb_55 : ∀ (x4 : Int32) (x5 : Int64) (x7 : Int64) (x9 : Int32) (x10 : Int64) (σ1 : Hp) (H : Heap) (locs : List Loc) (ls : Array Slot), f_X1_missedSlips_b55 x0 x2 x3 x4 x5 x7 x9 x10 σ1 = some z1 → tB g P σ1 A s.heap H locs → lv_has ls 17 [(0, .long x0), (2, .int x2), (3, .int x3), (4, .int x4), (5, .long x5), (7, .long x7), (9, .int x9), (10, .long x10)] → WQ p l e { frames := 1, cells := 0, slots := 0, locals := 25 } s m args below meth c g P A (some (.int r)) τ H locs (F0 m 55 ls []) := by
        intro x4 x5 x7 x9 x10 σ1 H locs ls h hB hl
        unfold f_X1_missedSlips_b55 at h
        refine lv_iconst (v := 0) hx hb dX1_missedSlips_55 (by decide) ?_
        exact hb_56 x4 x5 x7 x9 x10 (0 : Int32) σ1 H locs ls h hB (lv_sub hl [0, 1, 2, 3, 4, 5, 6, 7] rfl)
      have h : f_X1_missedSlips_t25 x0 x2 x3 x4 x5 x7 x9 σ1 = some z1 := hh1
      clear hh1
      unfold f_X1_missedSlips_t25 at h
      refine lv_iload hx hb dX1_missedSlips_25 (lv_at hl 6 rfl) ?_
      refine lv_iload_n hx hb dX1_missedSlips_27 rfl (lv_at hl 2 rfl) ?_
      refine lv_icmp_ge (tgt := 161) hx hb dX1_missedSlips_28 (by decide) (fun c_8 => ?_) (fun c_8 => ?_)
      · replace h := itp h c_8
        replace h := ex_eq h; obtain ⟨b1, h, hz1⟩ := h
        subst hz1
        have hz1 := (itk_inr hx1).symm
        subst hz1
        refine lv_iload hx hb dX1_missedSlips_161 (lv_at hl 3 rfl) ?_
        obtain ⟨rfl, rfl⟩ := Prod.mk.inj (Option.some.inj h)
        exact W.iret hx hb hr (R_end hB) hB.2.2.2.2 dX1_missedSlips_163
      · replace h := itn h c_8
        refine lv_lload hx hb dX1_missedSlips_31 (lv_at hl 5 rfl) ?_
        refine lv_iload_n hx hb dX1_missedSlips_33 rfl (lv_at hl 1 rfl) ?_
        refine lv_i2l (v := x2.toInt64) hx hb dX1_missedSlips_34 rfl ?_
        replace h := ck_eq h; obtain ⟨q_9, h⟩ := h
        refine lv_lrem hx hb dX1_missedSlips_35 q_9 ?_
        refine lv_lstore (lv' := [(10, .long (x7 - x7 / x2.toInt64 * x2.toInt64)), (0, .long x0), (2, .int x2), (3, .int x3), (4, .int x4), (5, .long x5), (7, .long x7), (9, .int x9)]) hx hb dX1_missedSlips_36 hl (by decide) rfl (fun ls hl => ?_)
        refine lv_iload_n hx hb dX1_missedSlips_38 rfl (lv_at hl 3 rfl) ?_
        refine lv_iconst (v := 1) hx hb dX1_missedSlips_39 (by decide) ?_
        refine lv_icmp_le (tgt := 55) hx hb dX1_missedSlips_40 (by decide) (fun c_10 => ?_) (fun c_10 => ?_)
        · replace h := itp h c_10
          exact hb_55 x4 x5 x7 x9 (x7 - x7 / x2.toInt64 * x2.toInt64) σ1 H locs ls h hB (lv_sub hl [1, 2, 3, 4, 5, 6, 7, 0] rfl)
        · replace h := itn h c_10
          refine lv_iload hx hb dX1_missedSlips_43 (lv_at hl 7 rfl) ?_
          refine lv_iload_n hx hb dX1_missedSlips_45 rfl (lv_at hl 3 rfl) ?_
          refine lv_iconst (v := 1) hx hb dX1_missedSlips_46 (by decide) ?_
          refine lv_isub hx hb dX1_missedSlips_47 ?_
          refine lv_icmp_ne (tgt := 55) hx hb dX1_missedSlips_48 (by decide) (fun c_22 => ?_) (fun c_22 => ?_)
          · replace h := itn h c_22
            exact hb_55 x4 x5 x7 x9 (x7 - x7 / x2.toInt64 * x2.toInt64) σ1 H locs ls h hB (lv_sub hl [1, 2, 3, 4, 5, 6, 7, 0] rfl)
          · replace h := itp h c_22
            refine lv_iconst (v := 1) hx hb dX1_missedSlips_51 (by decide) ?_
            refine lv_goto (tgt := 56) hx hb dX1_missedSlips_52 (by decide) ?_
            exact hb_56 x4 x5 x7 x9 (x7 - x7 / x2.toInt64 * x2.toInt64) (1 : Int32) σ1 H locs ls h hB (lv_sub hl [1, 2, 3, 4, 5, 6, 7, 0] rfl)
  suffices hmain : ∀ (H : Heap) (locs : List Loc) (ls : Array Slot), tB g P σ A s.heap H locs → lv_has ls 17 [(0, .long a0), (2, .int a2)] → WQ p l e { frames := 1, cells := 0, slots := 0, locals := 25 } s m args below meth c g P A (some (.int r)) τ H locs (F0 m 0 ls []) from hmain _ _ ls0 hB0 hl0
  intro H locs ls hB hl
  unfold f_X1_missedSlips at h
  refine lv_iload_n hx hb dX1_missedSlips_0 rfl (lv_at hl 1 rfl) ?_
  refine lv_iconst (v := 2) hx hb dX1_missedSlips_1 (by decide) ?_
  refine lv_icmp_ge (tgt := 7) hx hb dX1_missedSlips_2 (by decide) (fun c_4 => ?_) (fun c_4 => ?_)
  · replace h := itp h c_4
    refine lv_lload_n hx hb dX1_missedSlips_7 rfl (lv_at hl 0 rfl) ?_
    refine lv_iload_n hx hb dX1_missedSlips_8 rfl (lv_at hl 1 rfl) ?_
    replace h := b2_eq h; obtain ⟨r_5, s_6, hc_7, h⟩ := h
    refine R_call (rest := []) [.int r_5] (R_runS (n := 2) (As := [.long a0, .int a2]) ⟨hx, hb, hml, hown, ht⟩ (fun _ h9 => h9) hK hZ hA hB (c_X1_howMany l g P σ a0 a2 H.size hc_7) tw631 tw647 tw630 tw8 ⟨by decide, by decide, by decide⟩ rfl rfl ⟨Nat.le_of_ble_eq_true rfl, Nat.le_of_ble_eq_true rfl⟩ rfl hl.1 rfl (Nat.le_of_ble_eq_true rfl) dX1_missedSlips_9 ⟨Nat.zero_le _, Nat.zero_le _⟩) hB hA rfl (fun H locs hB => ?_)
    refine lv_istore_n (lv' := [(3, .int r_5), (0, .long a0), (2, .int a2)]) hx hb dX1_missedSlips_12 rfl hl (by decide) rfl (fun ls hl => ?_)
    refine lv_iconst (v := 0) hx hb dX1_missedSlips_13 (by decide) ?_
    refine lv_istore (lv' := [(4, .int (0 : Int32)), (3, .int r_5), (0, .long a0), (2, .int a2)]) hx hb dX1_missedSlips_14 hl (by decide) rfl (fun ls hl => ?_)
    refine lv_lconst (v := 1) hx hb dX1_missedSlips_16 (by decide) ?_
    refine lv_lstore (lv' := [(5, .long (1 : Int64)), (4, .int (0 : Int32)), (3, .int r_5), (0, .long a0), (2, .int a2)]) hx hb dX1_missedSlips_17 hl (by decide) rfl (fun ls hl => ?_)
    refine lv_lload_n hx hb dX1_missedSlips_19 rfl (lv_at hl 3 rfl) ?_
    refine lv_lstore (lv' := [(7, .long a0), (5, .long (1 : Int64)), (4, .int (0 : Int32)), (3, .int r_5), (0, .long a0), (2, .int a2)]) hx hb dX1_missedSlips_20 hl (by decide) rfl (fun ls hl => ?_)
    refine lv_iconst (v := 0) hx hb dX1_missedSlips_22 (by decide) ?_
    refine lv_istore (lv' := [(9, .int (0 : Int32)), (7, .long a0), (5, .long (1 : Int64)), (4, .int (0 : Int32)), (3, .int r_5), (0, .long a0), (2, .int a2)]) hx hb dX1_missedSlips_23 hl (by decide) rfl (fun ls hl => ?_)
    exact hL_25 a0 a2 r_5 fuel (0 : Int32) (1 : Int64) a0 (0 : Int32) s_6 H locs ls h hB (lv_sub hl [5, 6, 4, 3, 2, 1, 0] rfl)
  · replace h := itn h c_4
    refine lv_iconst (v := 0) hx hb dX1_missedSlips_5 (by decide) ?_
    obtain ⟨rfl, rfl⟩ := Prod.mk.inj (Option.some.inj h)
    exact W.iret hx hb hr (R_end hB) hB.2.2.2.2 dX1_missedSlips_6
