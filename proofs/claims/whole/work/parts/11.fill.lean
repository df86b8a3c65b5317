def f_J7_fill_53178_t5 (x0 : Nat) (x1 : Int32) (x3 : Int32) (x2 : Int32) (σ1 : Hp) : Option ((Int32 × Hp) ⊕ (Unit × Hp)) := if x3 ≤ x2 then ex (some ((), σ1)) else ck (inb x2 (ln x0) = true) (some (.inl ((x2 + 1), (sI σ1 x0 x2.toNatClampNeg x1))))
def f_J7_fill_53178_s5 (x0 : Nat) (x1 : Int32) (x3 : Int32) (v : (Int32 × Hp)) : Option ((Int32 × Hp) ⊕ (Unit × Hp)) := f_J7_fill_53178_t5 x0 x1 x3 v.1 v.2
def f_J7_fill_53178 (k0 : Nat) (a1 : Int32) (σ : Hp) : Option (Unit × Hp) := iter (f_J7_fill_53178_s5 k0 a1 (Int32.ofNat (ln k0))) fuel ((0 : Int32), σ)
set_option maxHeartbeats 4000000 in
set_option maxRecDepth 100000 in
theorem c_J7_fill_53178 (l : Launch) (g : tG) (P : Nat → Nat) (σ : Hp) (k0 : Nat) (a1 : Int32) (hk_k0 : ky k0 = 3) (sz : Nat) {r : Unit} {τ : Hp} (h : f_J7_fill_53178 k0 a1 σ = some (r, τ)) : Met l yJ7_fill_53178 (Cond.code yJ7_fill_53178 cJ7_fill_53178 4 none :: tblG) ({ frames := 0, cells := 0, slots := 0, locals := 0 }) (va_Pc [.ref (gL g k0), .int a1] (tPre g P σ sz)) (tQ none (tPost g P τ (va_A (wC g P σ) sz)) (va_A (wC g P σ) sz)) 0 0 (va_A (wC g P σ) sz) := by
  refine T_start (B := fun A => tPost g P τ A) (by decide) (Nat.le_of_ble_eq_true rfl) ?_
  intro p e s m args below meth c ls0 A hx hb hml hr hown hlocks ht hnm hK hZ hA hB0 hl0
  have hL_5 : ∀ (x0 : Nat) (x1 : Int32) (x3 : Int32) (hk_x0 : ky x0 = 3) (n : Nat) (x2 : Int32) (σ1 : Hp) (H : Heap) (locs : List Loc) (ls : Array Slot), iter (f_J7_fill_53178_s5 x0 x1 x3) n (x2, σ1) = some (r, τ) → tB g P σ1 A s.heap H locs → lv_has ls 4 [(0, .ref (gL g x0)), (1, .int x1), (2, .int x2), (3, .int x3)] → WQ p l e { frames := 0, cells := 0, slots := 0, locals := 0 } s m args below meth c g P A none τ H locs (F0 m 5 ls []) := by
    intro x0 x1 x3 hk_x0 n
    induction n with
    | zero =>
      intro x2 σ1 H locs ls h hB hl
      exact (iter_0 h).elim
    | succ n ih1 =>
      intro x2 σ1 H locs ls h hB hl
      replace h := iter_eq h; obtain ⟨z1, hh1, hx1⟩ := h
      have h : f_J7_fill_53178_t5 x0 x1 x3 x2 σ1 = some z1 := hh1
      clear hh1
      unfold f_J7_fill_53178_t5 at h
      refine lv_iload_n hx hb dJ7_fill_53178_5 rfl (lv_at hl 2 rfl) ?_
      refine lv_iload_n hx hb dJ7_fill_53178_6 rfl (lv_at hl 3 rfl) ?_
      refine lv_icmp_ge (tgt := 20) hx hb dJ7_fill_53178_7 (by decide) (fun c_1 => ?_) (fun c_1 => ?_)
      · replace h := itp h c_1
        replace h := ex_eq h; obtain ⟨b1, h, hz1⟩ := h
        subst hz1
        have hz1 := (itk_inr hx1).symm
        subst hz1
        obtain ⟨rfl, rfl⟩ := Prod.mk.inj (Option.some.inj h)
        exact W.vret hx hb hr (R_end hB) hB.2.2.2.2 dJ7_fill_53178_20
      · replace h := itn h c_1
        refine lv_aload_n hx hb dJ7_fill_53178_10 rfl (lv_at hl 0 rfl) ?_
        refine lv_iload_n hx hb dJ7_fill_53178_11 rfl (lv_at hl 2 rfl) ?_
        refine lv_iload_n hx hb dJ7_fill_53178_12 rfl (lv_at hl 1 rfl) ?_
        replace h := ck_eq h; obtain ⟨q_2, h⟩ := h
        refine R_iast hx hb hK hB hk_x0 (inb_eq q_2) dJ7_fill_53178_13 (fun H locs hB => ?_)
        refine lv_iinc (v := x2 + 1) (lv' := [(2, .int (x2 + 1)), (0, .ref (gL g x0)), (1, .int x1), (3, .int x3)]) hx hb dJ7_fill_53178_14 hl (k := 2) rfl rfl (by decide) rfl (fun ls hl => ?_)
        refine lv_goto (tgt := 5) hx hb dJ7_fill_53178_17 (by decide) ?_
        obtain rfl := Option.some.inj h
        exact ih1 (x2 + 1) (sI σ1 x0 x2.toNatClampNeg x1) H locs ls hx1 hB (lv_sub hl [1, 2, 0, 3] rfl)
  suffices hmain : ∀ (H : Heap) (locs : List Loc) (ls : Array Slot), tB g P σ A s.heap H locs → lv_has ls 4 [(0, .ref (gL g k0)), (1, .int a1)] → WQ p l e { frames := 0, cells := 0, slots := 0, locals := 0 } s m args below meth c g P A none τ H locs (F0 m 0 ls []) from hmain _ _ ls0 hB0 hl0
  intro H locs ls hB hl
  unfold f_J7_fill_53178 at h
  refine lv_iconst (v := 0) hx hb dJ7_fill_53178_0 (by decide) ?_
  refine lv_istore_n (lv' := [(2, .int (0 : Int32)), (0, .ref (gL g k0)), (1, .int a1)]) hx hb dJ7_fill_53178_1 rfl hl (by decide) rfl (fun ls hl => ?_)
  refine lv_aload_n hx hb dJ7_fill_53178_2 rfl (lv_at hl 1 rfl) ?_
  refine R_alenI hx hb (v := Int32.ofNat (ln k0)) hK hB hk_k0 rfl dJ7_fill_53178_3 ?_
  refine lv_istore_n (lv' := [(3, .int (Int32.ofNat (ln k0))), (2, .int (0 : Int32)), (0, .ref (gL g k0)), (1, .int a1)]) hx hb dJ7_fill_53178_4 rfl hl (by decide) rfl (fun ls hl => ?_)
  exact hL_5 k0 a1 (Int32.ofNat (ln k0)) hk_k0 fuel (0 : Int32) σ H locs ls h hB (lv_sub hl [2, 3, 1, 0] rfl)
def f_J7_fill_d0a16_t6 (x0 : Nat) (x1 : Int64) (x4 : Int32) (x3 : Int32) (σ1 : Hp) : Option ((Int32 × Hp) ⊕ (Unit × Hp)) := if x4 ≤ x3 then ex (some ((), σ1)) else ck (inb x3 (ln x0) = true) (some (.inl ((x3 + 1), (sJ σ1 x0 x3.toNatClampNeg x1))))
def f_J7_fill_d0a16_s6 (x0 : Nat) (x1 : Int64) (x4 : Int32) (v : (Int32 × Hp)) : Option ((Int32 × Hp) ⊕ (Unit × Hp)) := f_J7_fill_d0a16_t6 x0 x1 x4 v.1 v.2
def f_J7_fill_d0a16 (k0 : Nat) (a1 : Int64) (σ : Hp) : Option (Unit × Hp) := iter (f_J7_fill_d0a16_s6 k0 a1 (Int32.ofNat (ln k0))) fuel ((0 : Int32), σ)
set_option maxHeartbeats 4000000 in
set_option maxRecDepth 100000 in
theorem c_J7_fill_d0a16 (l : Launch) (g : tG) (P : Nat → Nat) (σ : Hp) (k0 : Nat) (a1 : Int64) (hk_k0 : ky k0 = 4) (sz : Nat) {r : Unit} {τ : Hp} (h : f_J7_fill_d0a16 k0 a1 σ = some (r, τ)) : Met l yJ7_fill_d0a16 (Cond.code yJ7_fill_d0a16 cJ7_fill_d0a16 5 none :: tblG) ({ frames := 0, cells := 0, slots := 0, locals := 0 }) (va_Pc [.ref (gL g k0), .long a1] (tPre g P σ sz)) (tQ none (tPost g P τ (va_A (wC g P σ) sz)) (va_A (wC g P σ) sz)) 0 0 (va_A (wC g P σ) sz) := by
  refine T_start (B := fun A => tPost g P τ A) (by decide) (Nat.le_of_ble_eq_true rfl) ?_
  intro p e s m args below meth c ls0 A hx hb hml hr hown hlocks ht hnm hK hZ hA hB0 hl0
  have hL_6 : ∀ (x0 : Nat) (x1 : Int64) (x4 : Int32) (hk_x0 : ky x0 = 4) (n : Nat) (x3 : Int32) (σ1 : Hp) (H : Heap) (locs : List Loc) (ls : Array Slot), iter (f_J7_fill_d0a16_s6 x0 x1 x4) n (x3, σ1) = some (r, τ) → tB g P σ1 A s.heap H locs → lv_has ls 5 [(0, .ref (gL g x0)), (1, .long x1), (3, .int x3), (4, .int x4)] → WQ p l e { frames := 0, cells := 0, slots := 0, locals := 0 } s m args below meth c g P A none τ H locs (F0 m 6 ls []) := by
    intro x0 x1 x4 hk_x0 n
    induction n with
    | zero =>
      intro x3 σ1 H locs ls h hB hl
      exact (iter_0 h).elim
    | succ n ih1 =>
      intro x3 σ1 H locs ls h hB hl
      replace h := iter_eq h; obtain ⟨z1, hh1, hx1⟩ := h
      have h : f_J7_fill_d0a16_t6 x0 x1 x4 x3 σ1 = some z1 := hh1
      clear hh1
      unfold f_J7_fill_d0a16_t6 at h
      refine lv_iload_n hx hb dJ7_fill_d0a16_6 rfl (lv_at hl 2 rfl) ?_
      refine lv_iload hx hb dJ7_fill_d0a16_7 (lv_at hl 3 rfl) ?_
      refine lv_icmp_ge (tgt := 22) hx hb dJ7_fill_d0a16_9 (by decide) (fun c_1 => ?_) (fun c_1 => ?_)
      · replace h := itp h c_1
        replace h := ex_eq h; obtain ⟨b1, h, hz1⟩ := h
        subst hz1
        have hz1 := (itk_inr hx1).symm
        subst hz1
        obtain ⟨rfl, rfl⟩ := Prod.mk.inj (Option.some.inj h)
        exact W.vret hx hb hr (R_end hB) hB.2.2.2.2 dJ7_fill_d0a16_22
      · replace h := itn h c_1
        refine lv_aload_n hx hb dJ7_fill_d0a16_12 rfl (lv_at hl 0 rfl) ?_
        refine lv_iload_n hx hb dJ7_fill_d0a16_13 rfl (lv_at hl 2 rfl) ?_
        refine lv_lload_n hx hb dJ7_fill_d0a16_14 rfl (lv_at hl 1 rfl) ?_
        replace h := ck_eq h; obtain ⟨q_2, h⟩ := h
        refine R_last hx hb hK hB hk_x0 (inb_eq q_2) dJ7_fill_d0a16_15 (fun H locs hB => ?_)
        refine lv_iinc (v := x3 + 1) (lv' := [(3, .int (x3 + 1)), (0, .ref (gL g x0)), (1, .long x1), (4, .int x4)]) hx hb dJ7_fill_d0a16_16 hl (k := 2) rfl rfl (by decide) rfl (fun ls hl => ?_)
        refine lv_goto (tgt := 6) hx hb dJ7_fill_d0a16_19 (by decide) ?_
        obtain rfl := Option.some.inj h
        exact ih1 (x3 + 1) (sJ σ1 x0 x3.toNatClampNeg x1) H locs ls hx1 hB (lv_sub hl [1, 2, 0, 3] rfl)
  suffices hmain : ∀ (H : Heap) (locs : List Loc) (ls : Array Slot), tB g P σ A s.heap H locs → lv_has ls 5 [(0, .ref (gL g k0)), (1, .long a1)] → WQ p l e { frames := 0, cells := 0, slots := 0, locals := 0 } s m args below meth c g P A none τ H locs (F0 m 0 ls []) from hmain _ _ ls0 hB0 hl0
  intro H locs ls hB hl
  unfold f_J7_fill_d0a16 at h
  refine lv_iconst (v := 0) hx hb dJ7_fill_d0a16_0 (by decide) ?_
  refine lv_istore_n (lv' := [(3, .int (0 : Int32)), (0, .ref (gL g k0)), (1, .long a1)]) hx hb dJ7_fill_d0a16_1 rfl hl (by decide) rfl (fun ls hl => ?_)
  refine lv_aload_n hx hb dJ7_fill_d0a16_2 rfl (lv_at hl 1 rfl) ?_
  refine R_alenJ hx hb (v := Int32.ofNat (ln k0)) hK hB hk_k0 rfl dJ7_fill_d0a16_3 ?_
  refine lv_istore (lv' := [(4, .int (Int32.ofNat (ln k0))), (3, .int (0 : Int32)), (0, .ref (gL g k0)), (1, .long a1)]) hx hb dJ7_fill_d0a16_4 hl (by decide) rfl (fun ls hl => ?_)
  exact hL_6 k0 a1 (Int32.ofNat (ln k0)) hk_k0 fuel (0 : Int32) σ H locs ls h hB (lv_sub hl [2, 3, 1, 0] rfl)
