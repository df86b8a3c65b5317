def f_J3_checkIndex_8e157_b9 (x0 : Int32) (x1 : Int32) (σ1 : Hp) : Option (Int32 × Hp) := none
def f_J3_checkIndex_8e157 (a0 : Int32) (a1 : Int32) (σ : Hp) : Option (Int32 × Hp) := if a0 < 0 then f_J3_checkIndex_8e157_b9 a0 a1 σ else if a0 < a1 then some (a0, σ) else f_J3_checkIndex_8e157_b9 a0 a1 σ
set_option maxHeartbeats 4000000 in
set_option maxRecDepth 100000 in
theorem c_J3_checkIndex_8e157 (l : Launch) (g : tG) (P : Nat → Nat) (σ : Hp) (a0 : Int32) (a1 : Int32) (sz : Nat) {r : Int32} {τ : Hp} (h : f_J3_checkIndex_8e157 a0 a1 σ = some (r, τ)) : Met l yJ3_checkIndex_8e157 (Cond.code yJ3_checkIndex_8e157 cJ3_checkIndex_8e157 3 (some .int) :: tblG) ({ frames := 0, cells := 0, slots := 0, locals := 0 }) (va_Pc [.int a0, .int a1, va_rf (gF g)] (tPre g P σ sz)) (tQ (some (.int r)) (tPost g P τ (va_A (wC g P σ) sz)) (va_A (wC g P σ) sz)) 0 0 (va_A (wC g P σ) sz) := by
  refine T_start (B := fun A => tPost g P τ A) (by decide) (by generalize gF g = o; cases o <;> exact Nat.le_of_ble_eq_true rfl) ?_
  intro p e s m args below meth c ls0 A hx hb hml hr hown hlocks ht hnm hK hZ hA hB0 hl0
  have hb_9 : ∀ (x0 : Int32) (x1 : Int32) (σ1 : Hp) (H : Heap) (locs : List Loc) (ls : Array Slot), f_J3_checkIndex_8e157_b9 x0 x1 σ1 = some (r, τ) → tB g P σ1 A s.heap H locs → lv_has ls 3 [(0, .int x0), (1, .int x1), (2, va_rf (gF g))] → WQ p l e { frames := 0, cells := 0, slots := 0, locals := 0 } s m args below meth c g P A (some (.int r)) τ H locs (F0 m 9 ls []) := by
    intro x0 x1 σ1 H locs ls h hB hl
    unfold f_J3_checkIndex_8e157_b9 at h
    refine lv_aload_nR hx hb dJ3_checkIndex_8e157_9 rfl (lv_at hl 2 rfl) ?_
    refine lv_iload_n hx hb dJ3_checkIndex_8e157_10 rfl (lv_at hl 0 rfl) ?_
    refine lv_iload_n hx hb dJ3_checkIndex_8e157_11 rfl (lv_at hl 1 rfl) ?_
    cases h
  suffices hmain : ∀ (H : Heap) (locs : List Loc) (ls : Array Slot), tB g P σ A s.heap H locs → lv_has ls 3 [(0, .int a0), (1, .int a1), (2, va_rf (gF g))] → WQ p l e { frames := 0, cells := 0, slots := 0, locals := 0 } s m args below meth c g P A (some (.int r)) τ H locs (F0 m 0 ls []) from hmain _ _ ls0 hB0 hl0
  intro H locs ls hB hl
  unfold f_J3_checkIndex_8e157 at h
  refine lv_iload_n hx hb dJ3_checkIndex_8e157_0 rfl (lv_at hl 0 rfl) ?_
  refine lv_if_lt (tgt := 9) hx hb dJ3_checkIndex_8e157_1 (by decide) (fun c_1 => ?_) (fun c_1 => ?_)
  · replace h := itp h c_1
    exact hb_9 a0 a1 σ H locs ls h hB (lv_sub hl [0, 1, 2] rfl)
  · replace h := itn h c_1
    refine lv_iload_n hx hb dJ3_checkIndex_8e157_4 rfl (lv_at hl 0 rfl) ?_
    refine lv_iload_n hx hb dJ3_checkIndex_8e157_5 rfl (lv_at hl 1 rfl) ?_
    refine lv_icmp_lt (tgt := 16) hx hb dJ3_checkIndex_8e157_6 (by decide) (fun c_2 => ?_) (fun c_2 => ?_)
    · replace h := itp h c_2
      refine lv_iload_n hx hb dJ3_checkIndex_8e157_16 rfl (lv_at hl 0 rfl) ?_
      obtain ⟨rfl, rfl⟩ := Prod.mk.inj (Option.some.inj h)
      exact W.iret hx hb hr (R_end hB) hB.2.2.2.2 dJ3_checkIndex_8e157_17
    · replace h := itn h c_2
      exact hb_9 a0 a1 σ H locs ls h hB (lv_sub hl [0, 1, 2] rfl)
def f_J0_checkIndex_df160 (a0 : Int32) (a1 : Int32) (σ : Hp) : Option (Unit × Hp) := b2 (f_J3_checkIndex_8e157 a0 a1 σ) (fun r_1 s_2 => some ((), s_2))
set_option maxHeartbeats 4000000 in
set_option maxRecDepth 100000 in
theorem c_J0_checkIndex_df160 (l : Launch) (g : tG) (P : Nat → Nat) (σ : Hp) (a0 : Int32) (a1 : Int32) (sz : Nat) {r : Unit} {τ : Hp} (h : f_J0_checkIndex_df160 a0 a1 σ = some (r, τ)) : Met l yJ0_checkIndex_df160 (Cond.code yJ0_checkIndex_df160 cJ0_checkIndex_df160 2 none :: tblG) ({ frames := 1, cells := 0, slots := 0, locals := 22 }) (va_Pc [.int a0, .int a1] (tPre g P σ sz)) (tQ none (tPost g P τ (va_A (wC g P σ) sz)) (va_A (wC g P σ) sz)) 0 0 (va_A (wC g P σ) sz) := by
  refine T_start (B := fun A => tPost g P τ A) (by decide) (Nat.le_of_ble_eq_true rfl) ?_
  intro p e s m args below meth c ls0 A hx hb hml hr hown hlocks ht hnm hK hZ hA hB0 hl0
  suffices hmain : ∀ (H : Heap) (locs : List Loc) (ls : Array Slot), tB g P σ A s.heap H locs → lv_has ls 2 [(0, .int a0), (1, .int a1)] → WQ p l e { frames := 1, cells := 0, slots := 0, locals := 22 } s m args below meth c g P A none τ H locs (F0 m 0 ls []) from hmain _ _ ls0 hB0 hl0
  intro H locs ls hB hl
  unfold f_J0_checkIndex_df160 at h
  refine lv_iload_n hx hb dJ0_checkIndex_df160_0 rfl (lv_at hl 0 rfl) ?_
  refine lv_iload_n hx hb dJ0_checkIndex_df160_1 rfl (lv_at hl 1 rfl) ?_
  refine va_gets hx hb hZ.2.2 hB.2.2 hown (ht _ tw530) (fun _ h9 => h9) dJ0_checkIndex_df160_2 ?_
  replace h := b2_eq h; obtain ⟨r_1, s_2, hc_3, h⟩ := h
  refine R_call (rest := []) [.int r_1] (R_runS (n := 3) (As := [.int a0, .int a1, va_rf (gF g)]) ⟨hx, hb, hml, hown, ht⟩ (fun _ h9 => h9) hK hZ hA hB (c_J3_checkIndex_8e157 l g P σ a0 a1 H.size hc_3) tw534 tw532 tw533 tw19 ⟨by decide, by decide, by decide⟩ rfl rfl ⟨Nat.le_of_ble_eq_true rfl, Nat.le_of_ble_eq_true rfl⟩ rfl hl.1 rfl (Nat.le_of_ble_eq_true rfl) dJ0_checkIndex_df160_5 ⟨Nat.zero_le _, Nat.zero_le _⟩) hB hA rfl (fun H locs hB => ?_)
  refine lv_pop hx hb dJ0_checkIndex_df160_8 rfl ?_
  obtain ⟨rfl, rfl⟩ := Prod.mk.inj (Option.some.inj h)
  exact W.vret hx hb hr (R_end hB) hB.2.2.2.2 dJ0_checkIndex_df160_9
def f_J0_coder_7d493 (i0 : Nat) (σ : Hp) : Option (Int32 × Hp) := if (1 : Int32) = 0 then some ((1 : Int32), σ) else some ((0 : Int32), σ)
set_option maxHeartbeats 4000000 in
set_option maxRecDepth 100000 in
theorem c_J0_coder_7d493 (l : Launch) (g : tG) (P : Nat → Nat) (σ : Hp) (i0 : Nat) (hk_i0 : i0 < 5) (sz : Nat) {r : Int32} {τ : Hp} (h : f_J0_coder_7d493 i0 σ = some (r, τ)) : Met l yJ0_coder_7d493 (Cond.code yJ0_coder_7d493 cJ0_coder_7d493 1 (some .byte) :: tblG) ({ frames := 0, cells := 0, slots := 0, locals := 0 }) (va_Pc [.ref (gK g i0)] (tPre g P σ sz)) (tQ (some (.int r)) (tPost g P τ (va_A (wC g P σ) sz)) (va_A (wC g P σ) sz)) 0 0 (va_A (wC g P σ) sz) := by
  refine T_start (B := fun A => tPost g P τ A) (by decide) (Nat.le_of_ble_eq_true rfl) ?_
  intro p e s m args below meth c ls0 A hx hb hml hr hown hlocks ht hnm hK hZ hA hB0 hl0
  suffices hmain : ∀ (H : Heap) (locs : List Loc) (ls : Array Slot), tB g P σ A s.heap H locs → lv_has ls 1 [(0, .ref (gK g i0))] → WQ p l e { frames := 0, cells := 0, slots := 0, locals := 0 } s m args below meth c g P A (some (.int r)) τ H locs (F0 m 0 ls []) from hmain _ _ ls0 hB0 hl0
  intro H locs ls hB hl
  unfold f_J0_coder_7d493 at h
  refine va_gets hx hb hZ.2.1 hB.2.2 hown (ht _ tw514) (fun _ h9 => h9) dJ0_coder_7d493_0 ?_
  refine lv_if_eq (tgt := 13) hx hb dJ0_coder_7d493_3 (by decide) (fun c_1 => ?_) (fun c_1 => ?_)
  · replace h := itp h c_1
    refine lv_iconst (v := 1) hx hb dJ0_coder_7d493_13 (by decide) ?_
    obtain ⟨rfl, rfl⟩ := Prod.mk.inj (Option.some.inj h)
    exact W.zret hx hb hr rfl (R_end hB) hB.2.2.2.2 dJ0_coder_7d493_14
  · replace h := itn h c_1
    refine lv_aload_n hx hb dJ0_coder_7d493_6 rfl (lv_at hl 0 rfl) ?_
    refine vk_getf hx hb (hZ.1.1 _ hk_i0).2.1 hB.2.2 hown (ht _ tw1367) (fun _ h9 => h9) dJ0_coder_7d493_7 ?_
    refine lv_goto (tgt := 14) hx hb dJ0_coder_7d493_10 (by decide) ?_
    obtain ⟨rfl, rfl⟩ := Prod.mk.inj (Option.some.inj h)
    exact W.zret hx hb hr rfl (R_end hB) hB.2.2.2.2 dJ0_coder_7d493_14
def f_J0_isLatin1_aae02 (i0 : Nat) (σ : Hp) : Option (Int32 × Hp) := if (1 : Int32) = 0 then some ((0 : Int32), σ) else if (0 : Int32) = 0 then some ((1 : Int32), σ) else some ((0 : Int32), σ)
set_option maxHeartbeats 4000000 in
set_option maxRecDepth 100000 in
theorem c_J0_isLatin1_aae02 (l : Launch) (g : tG) (P : Nat → Nat) (σ : Hp) (i0 : Nat) (hk_i0 : i0 < 5) (sz : Nat) {r : Int32} {τ : Hp} (h : f_J0_isLatin1_aae02 i0 σ = some (r, τ)) : Met l yJ0_isLatin1_aae02 (Cond.code yJ0_isLatin1_aae02 cJ0_isLatin1_aae02 1 (some .boolean) :: tblG) ({ frames := 0, cells := 0, slots := 0, locals := 0 }) (va_Pc [.ref (gK g i0)] (tPre g P σ sz)) (tQ (some (.int r)) (tPost g P τ (va_A (wC g P σ) sz)) (va_A (wC g P σ) sz)) 0 0 (va_A (wC g P σ) sz) := by
  refine T_start (B := fun A => tPost g P τ A) (by decide) (Nat.le_of_ble_eq_true rfl) ?_
  intro p e s m args below meth c ls0 A hx hb hml hr hown hlocks ht hnm hK hZ hA hB0 hl0
  suffices hmain : ∀ (H : Heap) (locs : List Loc) (ls : Array Slot), tB g P σ A s.heap H locs → lv_has ls 1 [(0, .ref (gK g i0))] → WQ p l e { frames := 0, cells := 0, slots := 0, locals := 0 } s m args below meth c g P A (some (.int r)) τ H locs (F0 m 0 ls []) from hmain _ _ ls0 hB0 hl0
  intro H locs ls hB hl
  unfold f_J0_isLatin1_aae02 at h
  refine va_gets hx hb hZ.2.1 hB.2.2 hown (ht _ tw514) (fun _ h9 => h9) dJ0_isLatin1_aae02_0 ?_
  refine lv_if_eq (tgt := 17) hx hb dJ0_isLatin1_aae02_3 (by decide) (fun c_1 => ?_) (fun c_1 => ?_)
  · replace h := itp h c_1
    refine lv_iconst (v := 0) hx hb dJ0_isLatin1_aae02_17 (by decide) ?_
    obtain ⟨rfl, rfl⟩ := Prod.mk.inj (Option.some.inj h)
    exact W.zret hx hb hr rfl (R_end hB) hB.2.2.2.2 dJ0_isLatin1_aae02_18
  · replace h := itn h c_1
    refine lv_aload_n hx hb dJ0_isLatin1_aae02_6 rfl (lv_at hl 0 rfl) ?_
    refine vk_getf hx hb (hZ.1.1 _ hk_i0).2.1 hB.2.2 hown (ht _ tw1367) (fun _ h9 => h9) dJ0_isLatin1_aae02_7 ?_
    refine lv_if_ne (tgt := 17) hx hb dJ0_isLatin1_aae02_10 (by decide) (fun c_2 => ?_) (fun c_2 => ?_)
    · replace h := itn h c_2
      refine lv_iconst (v := 0) hx hb dJ0_isLatin1_aae02_17 (by decide) ?_
      obtain ⟨rfl, rfl⟩ := Prod.mk.inj (Option.some.inj h)
      exact W.zret hx hb hr rfl (R_end hB) hB.2.2.2.2 dJ0_isLatin1_aae02_18
    · replace h := itp h c_2
      refine lv_iconst (v := 1) hx hb dJ0_isLatin1_aae02_13 (by decide) ?_
      refine lv_goto (tgt := 18) hx hb dJ0_isLatin1_aae02_14 (by decide) ?_
      obtain ⟨rfl, rfl⟩ := Prod.mk.inj (Option.some.inj h)
      exact W.zret hx hb hr rfl (R_end hB) hB.2.2.2.2 dJ0_isLatin1_aae02_18
def f_J0_length_8abf5 (i0 : Nat) (σ : Hp) : Option (Int32 × Hp) := b2 (f_J0_coder_7d493 i0 σ) (fun r_1 s_2 => some (((Int32.ofNat (txLen.getD i0 0)) >>> (r_1 &&& 31)), s_2))
set_option maxHeartbeats 4000000 in
set_option maxRecDepth 100000 in
theorem c_J0_length_8abf5 (l : Launch) (g : tG) (P : Nat → Nat) (σ : Hp) (i0 : Nat) (hk_i0 : i0 < 5) (sz : Nat) {r : Int32} {τ : Hp} (h : f_J0_length_8abf5 i0 σ = some (r, τ)) : Met l yJ0_length_8abf5 (Cond.code yJ0_length_8abf5 cJ0_length_8abf5 1 (some .int) :: tblG) ({ frames := 1, cells := 0, slots := 0, locals := 20 }) (va_Pc [.ref (gK g i0)] (tPre g P σ sz)) (tQ (some (.int r)) (tPost g P τ (va_A (wC g P σ) sz)) (va_A (wC g P σ) sz)) 0 0 (va_A (wC g P σ) sz) := by
  refine T_start (B := fun A => tPost g P τ A) (by decide) (Nat.le_of_ble_eq_true rfl) ?_
  intro p e s m args below meth c ls0 A hx hb hml hr hown hlocks ht hnm hK hZ hA hB0 hl0
  suffices hmain : ∀ (H : Heap) (locs : List Loc) (ls : Array Slot), tB g P σ A s.heap H locs → lv_has ls 1 [(0, .ref (gK g i0))] → WQ p l e { frames := 1, cells := 0, slots := 0, locals := 20 } s m args below meth c g P A (some (.int r)) τ H locs (F0 m 0 ls []) from hmain _ _ ls0 hB0 hl0
  intro H locs ls hB hl
  unfold f_J0_length_8abf5 at h
  refine lv_aload_n hx hb dJ0_length_8abf5_0 rfl (lv_at hl 0 rfl) ?_
  refine vk_getf hx hb (hZ.1.1 _ hk_i0).2.2.1 hB.2.2 hown (ht _ tw1366) (fun _ h9 => h9) dJ0_length_8abf5_1 ?_
  refine va_tlen hx hb (hZ.1.1 _ hk_i0).2.2.2 hB.2.2 (v := Int32.ofNat (txLen.getD i0 0)) rfl dJ0_length_8abf5_4 ?_
  refine lv_aload_n hx hb dJ0_length_8abf5_5 rfl (lv_at hl 0 rfl) ?_
  replace h := b2_eq h; obtain ⟨r_1, s_2, hc_3, h⟩ := h
  refine R_call (rest := [.int (Int32.ofNat (txLen.getD i0 0))]) [.int r_1, .int (Int32.ofNat (txLen.getD i0 0))] (R_runV (n := 0) (As := []) ⟨hx, hb, hml, hown, ht⟩ (fun _ h9 => h9) hK hZ hA hB (c_J0_coder_7d493 l g P σ i0 hk_i0 H.size hc_3) (vk_recv hZ.1 hk_i0 hB.2.2) tw513 tw510 tw511 tw512 tw17 ⟨by decide, by decide, by decide⟩ rfl rfl ⟨Nat.le_of_ble_eq_true rfl, Nat.le_of_ble_eq_true rfl⟩ rfl hl.1 rfl (Nat.le_of_ble_eq_true rfl) dJ0_length_8abf5_6 ⟨Nat.zero_le _, Nat.zero_le _⟩) hB hA rfl (fun H locs hB => ?_)
  refine lv_ishr hx hb dJ0_length_8abf5_9 ?_
  obtain ⟨rfl, rfl⟩ := Prod.mk.inj (Option.some.inj h)
  exact W.iret hx hb hr (R_end hB) hB.2.2.2.2 dJ0_length_8abf5_10
def f_J1_charAt_3b067 (i0 : Nat) (a1 : Int32) (σ : Hp) : Option (Int32 × Hp) := b2 (f_J0_checkIndex_df160 a1 (Int32.ofNat (txLen.getD i0 0)) σ) (fun r_2 s_3 => ck (inb a1 (txLen.getD i0 0) = true) (some (((((txByt.getD i0 []).getD a1.toNatClampNeg 0) &&& (255 : Int32)).toUInt32 % 65536).toInt32, s_3)))
set_option maxHeartbeats 4000000 in
set_option maxRecDepth 100000 in
theorem c_J1_charAt_3b067 (l : Launch) (g : tG) (P : Nat → Nat) (σ : Hp) (i0 : Nat) (a1 : Int32) (hk_i0 : i0 < 5) (sz : Nat) {r : Int32} {τ : Hp} (h : f_J1_charAt_3b067 i0 a1 σ = some (r, τ)) : Met l yJ1_charAt_3b067 (Cond.code yJ1_charAt_3b067 cJ1_charAt_3b067 2 (some .char) :: tblG) ({ frames := 2, cells := 0, slots := 0, locals := 43 }) (va_Pc [.ref (gV g i0), .int a1] (tPre g P σ sz)) (tQ (some (.int r)) (tPost g P τ (va_A (wC g P σ) sz)) (va_A (wC g P σ) sz)) 0 0 (va_A (wC g P σ) sz) := by
  refine T_start (B := fun A => tPost g P τ A) (by decide) (Nat.le_of_ble_eq_true rfl) ?_
  intro p e s m args below meth c ls0 A hx hb hml hr hown hlocks ht hnm hK hZ hA hB0 hl0
  suffices hmain : ∀ (H : Heap) (locs : List Loc) (ls : Array Slot), tB g P σ A s.heap H locs → lv_has ls 2 [(0, .ref (gV g i0)), (1, .int a1)] → WQ p l e { frames := 2, cells := 0, slots := 0, locals := 43 } s m args below meth c g P A (some (.int r)) τ H locs (F0 m 0 ls []) from hmain _ _ ls0 hB0 hl0
  intro H locs ls hB hl
  unfold f_J1_charAt_3b067 at h
  refine lv_iload_n hx hb dJ1_charAt_3b067_0 rfl (lv_at hl 1 rfl) ?_
  refine lv_aload_n hx hb dJ1_charAt_3b067_1 rfl (lv_at hl 0 rfl) ?_
  refine va_tlen hx hb (hZ.1.1 _ hk_i0).2.2.2 hB.2.2 (v := Int32.ofNat (txLen.getD i0 0)) rfl dJ1_charAt_3b067_2 ?_
  replace h := b2_eq h; obtain ⟨r_2, s_3, hc_4, h⟩ := h
  refine R_call (rest := []) [] (R_runS (n := 2) (As := [.int a1, .int (Int32.ofNat (txLen.getD i0 0))]) ⟨hx, hb, hml, hown, ht⟩ (fun _ h9 => h9) hK hZ hA hB (c_J0_checkIndex_df160 l g P σ a1 (Int32.ofNat (txLen.getD i0 0)) H.size hc_4) tw529 tw527 tw528 tw17 ⟨by decide, by decide, by decide⟩ rfl rfl ⟨Nat.le_of_ble_eq_true rfl, Nat.le_of_ble_eq_true rfl⟩ rfl hl.1 rfl (Nat.le_of_ble_eq_true rfl) dJ1_charAt_3b067_3 ⟨Nat.zero_le _, Nat.zero_le _⟩) hB hA rfl (fun H locs hB => ?_)
  refine lv_aload_n hx hb dJ1_charAt_3b067_6 rfl (lv_at hl 0 rfl) ?_
  refine lv_iload_n hx hb dJ1_charAt_3b067_7 rfl (lv_at hl 1 rfl) ?_
  replace h := ck_eq h; obtain ⟨q_5, h⟩ := h
  refine va_tb hx hb (hZ.1.1 _ hk_i0).2.2.2 hB.2.2 (inb_eq q_5) (v := .int ((txByt.getD i0 []).getD a1.toNatClampNeg 0)) rfl dJ1_charAt_3b067_8 ?_
  refine lv_sipush (v := 255) hx hb dJ1_charAt_3b067_9 (by decide) ?_
  refine lv_iand hx hb dJ1_charAt_3b067_12 ?_
  refine lv_i2c (v := ((((txByt.getD i0 []).getD a1.toNatClampNeg 0) &&& (255 : Int32)).toUInt32 % 65536).toInt32) hx hb dJ1_charAt_3b067_13 rfl ?_
  obtain ⟨rfl, rfl⟩ := Prod.mk.inj (Option.some.inj h)
  exact W.zret hx hb hr (pk_nc _) (R_end hB) hB.2.2.2.2 dJ1_charAt_3b067_14
def f_J0_charAt_5068e (i0 : Nat) (a1 : Int32) (σ : Hp) : Option (Int32 × Hp) := b2 (f_J0_isLatin1_aae02 i0 σ) (fun r_1 s_2 => if r_1 = 0 then none else b2 (f_J1_charAt_3b067 i0 a1 s_2) (fun r_5 s_6 => ck (isCh r_5 = true) (some (r_5, s_6))))
set_option maxHeartbeats 4000000 in
set_option maxRecDepth 100000 in
theorem c_J0_charAt_5068e (l : Launch) (g : tG) (P : Nat → Nat) (σ : Hp) (i0 : Nat) (a1 : Int32) (hk_i0 : i0 < 5) (sz : Nat) {r : Int32} {τ : Hp} (h : f_J0_charAt_5068e i0 a1 σ = some (r, τ)) : Met l yJ0_charAt_5068e (Cond.code yJ0_charAt_5068e cJ0_charAt_5068e 2 (some .char) :: tblG) ({ frames := 3, cells := 0, slots := 0, locals := 64 }) (va_Pc [.ref (gK g i0), .int a1] (tPre g P σ sz)) (tQ (some (.int r)) (tPost g P τ (va_A (wC g P σ) sz)) (va_A (wC g P σ) sz)) 0 0 (va_A (wC g P σ) sz) := by
  refine T_start (B := fun A => tPost g P τ A) (by decide) (Nat.le_of_ble_eq_true rfl) ?_
  intro p e s m args below meth c ls0 A hx hb hml hr hown hlocks ht hnm hK hZ hA hB0 hl0
  suffices hmain : ∀ (H : Heap) (locs : List Loc) (ls : Array Slot), tB g P σ A s.heap H locs → lv_has ls 2 [(0, .ref (gK g i0)), (1, .int a1)] → WQ p l e { frames := 3, cells := 0, slots := 0, locals := 64 } s m args below meth c g P A (some (.int r)) τ H locs (F0 m 0 ls []) from hmain _ _ ls0 hB0 hl0
  intro H locs ls hB hl
  unfold f_J0_charAt_5068e at h
  refine lv_aload_n hx hb dJ0_charAt_5068e_0 rfl (lv_at hl 0 rfl) ?_
  replace h := b2_eq h; obtain ⟨r_1, s_2, hc_3, h⟩ := h
  refine R_call (rest := []) [.int r_1] (R_runV (n := 0) (As := []) ⟨hx, hb, hml, hown, ht⟩ (fun _ h9 => h9) hK hZ hA hB (c_J0_isLatin1_aae02 l g P σ i0 hk_i0 H.size hc_3) (vk_recv hZ.1 hk_i0 hB.2.2) tw523 tw520 tw521 tw522 tw17 ⟨by decide, by decide, by decide⟩ rfl rfl ⟨Nat.le_of_ble_eq_true rfl, Nat.le_of_ble_eq_true rfl⟩ rfl hl.1 rfl (Nat.le_of_ble_eq_true rfl) dJ0_charAt_5068e_1 ⟨Nat.zero_le _, Nat.zero_le _⟩) hB hA rfl (fun H locs hB => ?_)
  refine lv_if_eq (tgt := 16) hx hb dJ0_charAt_5068e_4 (by decide) (fun c_4 => ?_) (fun c_4 => ?_)
  · replace h := itp h c_4
    refine lv_aload_n hx hb dJ0_charAt_5068e_16 rfl (lv_at hl 0 rfl) ?_
    refine vk_getf hx hb (hZ.1.1 _ hk_i0).2.2.1 hB.2.2 hown (ht _ tw1366) (fun _ h9 => h9) dJ0_charAt_5068e_17 ?_
    refine lv_iload_n hx hb dJ0_charAt_5068e_20 rfl (lv_at hl 1 rfl) ?_
    cases h
  · replace h := itn h c_4
    refine lv_aload_n hx hb dJ0_charAt_5068e_7 rfl (lv_at hl 0 rfl) ?_
    refine vk_getf hx hb (hZ.1.1 _ hk_i0).2.2.1 hB.2.2 hown (ht _ tw1366) (fun _ h9 => h9) dJ0_charAt_5068e_8 ?_
    refine lv_iload_n hx hb dJ0_charAt_5068e_11 rfl (lv_at hl 1 rfl) ?_
    replace h := b2_eq h; obtain ⟨r_5, s_6, hc_7, h⟩ := h
    refine R_call (rest := []) [.int r_5] (R_runS (n := 2) (As := [.ref (gV g i0), .int a1]) ⟨hx, hb, hml, hown, ht⟩ (fun _ h9 => h9) hK hZ hA hB (c_J1_charAt_3b067 l g P s_2 i0 a1 hk_i0 H.size hc_7) tw526 tw524 tw525 tw18 ⟨by decide, by decide, by decide⟩ rfl rfl ⟨Nat.le_of_ble_eq_true rfl, Nat.le_of_ble_eq_true rfl⟩ rfl hl.1 rfl (Nat.le_of_ble_eq_true rfl) dJ0_charAt_5068e_12 ⟨Nat.zero_le _, Nat.zero_le _⟩) hB hA rfl (fun H locs hB => ?_)
    replace h := ck_eq h; obtain ⟨q_8, h⟩ := h
    obtain ⟨rfl, rfl⟩ := Prod.mk.inj (Option.some.inj h)
    exact W.zret hx hb hr (isCh_eq q_8) (R_end hB) hB.2.2.2.2 dJ0_charAt_5068e_15
def f_X4_failAt (a1 : Int32) (σ : Hp) : Option (Int32 × Hp) := some ((0 : Int32), (sI σ 31 5 a1))
set_option maxHeartbeats 4000000 in
set_option maxRecDepth 100000 in
theorem c_X4_failAt (l : Launch) (g : tG) (P : Nat → Nat) (σ : Hp) (a1 : Int32) (sz : Nat) {r : Int32} {τ : Hp} (h : f_X4_failAt a1 σ = some (r, τ)) : Met l yX4_failAt (Cond.code yX4_failAt cX4_failAt 2 (some .boolean) :: tblG) ({ frames := 0, cells := 0, slots := 0, locals := 0 }) (va_Pc [.ref (gL g 31), .int a1] (tPre g P σ sz)) (tQ (some (.int r)) (tPost g P τ (va_A (wC g P σ) sz)) (va_A (wC g P σ) sz)) 0 0 (va_A (wC g P σ) sz) := by
  refine T_start (B := fun A => tPost g P τ A) (by decide) (Nat.le_of_ble_eq_true rfl) ?_
  intro p e s m args below meth c ls0 A hx hb hml hr hown hlocks ht hnm hK hZ hA hB0 hl0
  suffices hmain : ∀ (H : Heap) (locs : List Loc) (ls : Array Slot), tB g P σ A s.heap H locs → lv_has ls 2 [(0, .ref (gL g 31)), (1, .int a1)] → WQ p l e { frames := 0, cells := 0, slots := 0, locals := 0 } s m args below meth c g P A (some (.int r)) τ H locs (F0 m 0 ls []) from hmain _ _ ls0 hB0 hl0
  intro H locs ls hB hl
  unfold f_X4_failAt at h
  refine lv_aload_n hx hb dX4_failAt_0 rfl (lv_at hl 0 rfl) ?_
  refine lv_iload_n hx hb dX4_failAt_1 rfl (lv_at hl 1 rfl) ?_
  refine R_putI (v := a1) (ty := .int) hx hb ht ui_X4 tyX4 tyX4_ok nmX4 hown hK hB (by decide) (cell_7 rfl) rfl 5 (by decide) (ht _ tw115) (fun _ h9 => h9) rfl (by decide +kernel) rfl rfl (Nat.le_of_ble_eq_true rfl) (st7_5 rfl) dX4_failAt_2 (fun H locs hB => ?_)
  refine lv_iconst (v := 0) hx hb dX4_failAt_5 (by decide) ?_
  obtain ⟨rfl, rfl⟩ := Prod.mk.inj (Option.some.inj h)
  exact W.zret hx hb hr rfl (R_end hB) hB.2.2.2.2 dX4_failAt_6
def f_X4_isDigit (a0 : Int32) (σ : Hp) : Option (Int32 × Hp) := if a0 < (48 : Int32) then some ((0 : Int32), σ) else if (57 : Int32) < a0 then some ((0 : Int32), σ) else some ((1 : Int32), σ)
set_option maxHeartbeats 4000000 in
set_option maxRecDepth 100000 in
theorem c_X4_isDigit (l : Launch) (g : tG) (P : Nat → Nat) (σ : Hp) (a0 : Int32) (sz : Nat) {r : Int32} {τ : Hp} (h : f_X4_isDigit a0 σ = some (r, τ)) : Met l yX4_isDigit (Cond.code yX4_isDigit cX4_isDigit 1 (some .boolean) :: tblG) ({ frames := 0, cells := 0, slots := 0, locals := 0 }) (va_Pc [.int a0] (tPre g P σ sz)) (tQ (some (.int r)) (tPost g P τ (va_A (wC g P σ) sz)) (va_A (wC g P σ) sz)) 0 0 (va_A (wC g P σ) sz) := by
  refine T_start (B := fun A => tPost g P τ A) (by decide) (Nat.le_of_ble_eq_true rfl) ?_
  intro p e s m args below meth c ls0 A hx hb hml hr hown hlocks ht hnm hK hZ hA hB0 hl0
  suffices hmain : ∀ (H : Heap) (locs : List Loc) (ls : Array Slot), tB g P σ A s.heap H locs → lv_has ls 1 [(0, .int a0)] → WQ p l e { frames := 0, cells := 0, slots := 0, locals := 0 } s m args below meth c g P A (some (.int r)) τ H locs (F0 m 0 ls []) from hmain _ _ ls0 hB0 hl0
  intro H locs ls hB hl
  unfold f_X4_isDigit at h
  refine lv_iload_n hx hb dX4_isDigit_0 rfl (lv_at hl 0 rfl) ?_
  refine lv_bipush (v := 48) hx hb dX4_isDigit_1 (by decide) ?_
  refine lv_icmp_lt (tgt := 16) hx hb dX4_isDigit_3 (by decide) (fun c_1 => ?_) (fun c_1 => ?_)
  · replace h := itp h c_1
    refine lv_iconst (v := 0) hx hb dX4_isDigit_16 (by decide) ?_
    obtain ⟨rfl, rfl⟩ := Prod.mk.inj (Option.some.inj h)
    exact W.zret hx hb hr rfl (R_end hB) hB.2.2.2.2 dX4_isDigit_17
  · replace h := itn h c_1
    refine lv_iload_n hx hb dX4_isDigit_6 rfl (lv_at hl 0 rfl) ?_
    refine lv_bipush (v := 57) hx hb dX4_isDigit_7 (by decide) ?_
    refine lv_icmp_gt (tgt := 16) hx hb dX4_isDigit_9 (by decide) (fun c_2 => ?_) (fun c_2 => ?_)
    · replace h := itp h c_2
      refine lv_iconst (v := 0) hx hb dX4_isDigit_16 (by decide) ?_
      obtain ⟨rfl, rfl⟩ := Prod.mk.inj (Option.some.inj h)
      exact W.zret hx hb hr rfl (R_end hB) hB.2.2.2.2 dX4_isDigit_17
    · replace h := itn h c_2
      refine lv_iconst (v := 1) hx hb dX4_isDigit_12 (by decide) ?_
      refine lv_goto (tgt := 17) hx hb dX4_isDigit_13 (by decide) ?_
      obtain ⟨rfl, rfl⟩ := Prod.mk.inj (Option.some.inj h)
      exact W.zret hx hb hr rfl (R_end hB) hB.2.2.2.2 dX4_isDigit_17
def f_X4_readSign (a1 : Int32) (σ : Hp) : Option (Int32 × Hp) := nn (hR σ 31 1) (fun y_1 => ck (ky y_1 = 6) (b2 (f_X5_letterAt y_1 (hI σ 31 2) σ) (fun r_4 s_5 => if r_4 = a1 then some ((1 : Int32), (sI s_5 31 2 ((hI s_5 31 2) + (1 : Int32)))) else b2 (f_X4_failAt (hI s_5 31 2) s_5) (fun r_8 s_9 => ck (isB r_8 = true) (some (r_8, s_9))))))
set_option maxHeartbeats 4000000 in
set_option maxRecDepth 100000 in
theorem c_X4_readSign (l : Launch) (g : tG) (P : Nat → Nat) (σ : Hp) (a1 : Int32) (sz : Nat) {r : Int32} {τ : Hp} (h : f_X4_readSign a1 σ = some (r, τ)) : Met l yX4_readSign (Cond.code yX4_readSign cX4_readSign 2 (some .boolean) :: tblG) ({ frames := 2, cells := 0, slots := 0, locals := 42 }) (va_Pc [.ref (gL g 31), .int a1] (tPre g P σ sz)) (tQ (some (.int r)) (tPost g P τ (va_A (wC g P σ) sz)) (va_A (wC g P σ) sz)) 0 0 (va_A (wC g P σ) sz) := by
  refine T_start (B := fun A => tPost g P τ A) (by decide) (Nat.le_of_ble_eq_true rfl) ?_
  intro p e s m args below meth c ls0 A hx hb hml hr hown hlocks ht hnm hK hZ hA hB0 hl0
  suffices hmain : ∀ (H : Heap) (locs : List Loc) (ls : Array Slot), tB g P σ A s.heap H locs → lv_has ls 2 [(0, .ref (gL g 31)), (1, .int a1)] → WQ p l e { frames := 2, cells := 0, slots := 0, locals := 42 } s m args below meth c g P A (some (.int r)) τ H locs (F0 m 0 ls []) from hmain _ _ ls0 hB0 hl0
  intro H locs ls hB hl
  unfold f_X4_readSign at h
  refine lv_aload_n hx hb dX4_readSign_0 rfl (lv_at hl 0 rfl) ?_
  refine R_get (v := va_rf (Option.map (gL g) (hR σ 31 1))) hx hb ht ui_X4 hown hK hB (by decide) (cell_7 rfl) rfl 1 (by decide) (ht _ tw111) (fun _ h9 => h9) rfl dX4_readSign_1 ?_
  replace h := nn_eq h; obtain ⟨y_1, hy_2, h⟩ := h
  replace h := ck_eq h; obtain ⟨q_3, h⟩ := h
  refine W.stk (v' := .ref (gL g y_1)) (by rw [hy_2]; rfl) ?_
  refine lv_aload_n hx hb dX4_readSign_4 rfl (lv_at hl 0 rfl) ?_
  refine R_get (v := .int (hI σ 31 2)) hx hb ht ui_X4 hown hK hB (by decide) (cell_7 rfl) rfl 2 (by decide) (ht _ tw112) (fun _ h9 => h9) rfl dX4_readSign_5 ?_
  replace h := b2_eq h; obtain ⟨r_4, s_5, hc_6, h⟩ := h
  refine R_call (rest := []) [.int r_4] (R_runV (n := 1) (As := [.int (hI σ 31 2)]) ⟨hx, hb, hml, hown, ht⟩ (fun _ h9 => h9) hK hZ hA hB (c_X5_letterAt l g P σ y_1 (hI σ 31 2) q_3 H.size hc_6) (R_recv hK hB (ky_in _ (by rw [q_3]; decide)) (cell_6 q_3) rfl) tw495 tw492 tw493 tw494 tw3 ⟨by decide, by decide, by decide⟩ rfl rfl ⟨Nat.le_of_ble_eq_true rfl, Nat.le_of_ble_eq_true rfl⟩ rfl hl.1 rfl (Nat.le_of_ble_eq_true rfl) dX4_readSign_8 ⟨Nat.zero_le _, Nat.zero_le _⟩) hB hA rfl (fun H locs hB => ?_)
  refine lv_iload_n hx hb dX4_readSign_11 rfl (lv_at hl 1 rfl) ?_
  refine lv_icmp_eq (tgt := 24) hx hb dX4_readSign_12 (by decide) (fun c_7 => ?_) (fun c_7 => ?_)
  · replace h := itp h c_7
    refine lv_aload_n hx hb dX4_readSign_24 rfl (lv_at hl 0 rfl) ?_
    refine lv_dup hx hb dX4_readSign_25 rfl ?_
    refine R_get (v := .int (hI s_5 31 2)) hx hb ht ui_X4 hown hK hB (by decide) (cell_7 rfl) rfl 2 (by decide) (ht _ tw112) (fun _ h9 => h9) rfl dX4_readSign_26 ?_
    refine lv_iconst (v := 1) hx hb dX4_readSign_29 (by decide) ?_
    refine lv_iadd hx hb dX4_readSign_30 ?_
    refine R_putI (v := ((hI s_5 31 2) + (1 : Int32))) (ty := .int) hx hb ht ui_X4 tyX4 tyX4_ok nmX4 hown hK hB (by decide) (cell_7 rfl) rfl 2 (by decide) (ht _ tw112) (fun _ h9 => h9) rfl (by decide +kernel) rfl rfl (Nat.le_of_ble_eq_true rfl) (st7_2 rfl) dX4_readSign_31 (fun H locs hB => ?_)
    refine lv_iconst (v := 1) hx hb dX4_readSign_34 (by decide) ?_
    obtain ⟨rfl, rfl⟩ := Prod.mk.inj (Option.some.inj h)
    exact W.zret hx hb hr rfl (R_end hB) hB.2.2.2.2 dX4_readSign_35
  · replace h := itn h c_7
    refine lv_aload_n hx hb dX4_readSign_15 rfl (lv_at hl 0 rfl) ?_
    refine lv_aload_n hx hb dX4_readSign_16 rfl (lv_at hl 0 rfl) ?_
    refine R_get (v := .int (hI s_5 31 2)) hx hb ht ui_X4 hown hK hB (by decide) (cell_7 rfl) rfl 2 (by decide) (ht _ tw112) (fun _ h9 => h9) rfl dX4_readSign_17 ?_
    replace h := b2_eq h; obtain ⟨r_8, s_9, hc_10, h⟩ := h
    refine R_call (rest := []) [.int r_8] (R_runV (n := 1) (As := [.int (hI s_5 31 2)]) ⟨hx, hb, hml, hown, ht⟩ (fun _ h9 => h9) hK hZ hA hB (c_X4_failAt l g P s_5 (hI s_5 31 2) H.size hc_10) (R_recv hK hB (by decide) (cell_7 rfl) rfl) tw561 tw558 tw560 pw8 tw4 ⟨by decide, by decide, by decide⟩ rfl rfl ⟨Nat.le_of_ble_eq_true rfl, Nat.le_of_ble_eq_true rfl⟩ rfl hl.1 rfl (Nat.le_of_ble_eq_true rfl) dX4_readSign_20 ⟨Nat.zero_le _, Nat.zero_le _⟩) hB hA rfl (fun H locs hB => ?_)
    replace h := ck_eq h; obtain ⟨q_11, h⟩ := h
    obtain ⟨rfl, rfl⟩ := Prod.mk.inj (Option.some.inj h)
    exact W.zret hx hb hr (isB_eq q_11) (R_end hB) hB.2.2.2.2 dX4_readSign_23
def f_X4_readNumber_b118 (σ1 : Hp) : Option (Int32 × Hp) := b2 (f_X4_failAt (hI σ1 31 4) σ1) (fun r_7 s_8 => ck (isB r_7 = true) (some (r_7, s_8)))
def f_X4_readNumber_b91 (x1 : Int32) (x2 : Int32) (σ1 : Hp) : Option (Int32 × Hp) := if (hI σ1 31 2) = (hI σ1 31 4) then f_X4_readNumber_b118 σ1 else if (hI σ1 31 3) < x1 then f_X4_readNumber_b118 σ1 else if (hI σ1 31 3) ≤ x2 then some ((1 : Int32), σ1) else f_X4_readNumber_b118 σ1
def f_X4_readNumber_t26 (x1 : Int32) (x2 : Int32) (x3 : Int32) (σ1 : Hp) : Option ((Int32 × Hp) ⊕ (Int32 × Hp)) := if (6 : Int32) ≤ x3 then ex (f_X4_readNumber_b91 x1 x2 σ1) else nn (hR σ1 31 1) (fun y_13 => ck (ky y_13 = 6) (b2 (f_X5_letterAt y_13 (hI σ1 31 2) σ1) (fun r_16 s_17 => b2 (f_X4_isDigit r_16 s_17) (fun r_19 s_20 => if r_19 = 0 then ex (f_X4_readNumber_b91 x1 x2 s_20) else nn (hR s_20 31 1) (fun y_23 => ck (ky y_23 = 6) (b2 (f_X5_letterAt y_23 (hI s_20 31 2) s_20) (fun r_26 s_27 => some (.inl ((x3 + 1), (sI (sI s_27 31 3 ((((hI s_20 31 3) * (10 : Int32)) + r_26) - (48 : Int32))) 31 2 ((hI (sI s_27 31 3 ((((hI s_20 31 3) * (10 : Int32)) + r_26) - (48 : Int32))) 31 2) + (1 : Int32))))))))))))
def f_X4_readNumber_s26 (x1 : Int32) (x2 : Int32) (v : (Int32 × Hp)) : Option ((Int32 × Hp) ⊕ (Int32 × Hp)) := f_X4_readNumber_t26 x1 x2 v.1 v.2
def f_X4_readNumber (a1 : Int32) (a2 : Int32) (σ : Hp) : Option (Int32 × Hp) := b2 (f_X4_readSign (32 : Int32) σ) (fun r_1 s_2 => if r_1 = 0 then some ((0 : Int32), s_2) else iter (f_X4_readNumber_s26 a1 a2) fuel ((0 : Int32), (sI (sI s_2 31 4 (hI s_2 31 2)) 31 3 (0 : Int32))))
set_option maxHeartbeats 4000000 in
set_option maxRecDepth 100000 in
theorem c_X4_readNumber (l : Launch) (g : tG) (P : Nat → Nat) (σ : Hp) (a1 : Int32) (a2 : Int32) (sz : Nat) {r : Int32} {τ : Hp} (h : f_X4_readNumber a1 a2 σ = some (r, τ)) : Met l yX4_readNumber (Cond.code yX4_readNumber cX4_readNumber 4 (some .boolean) :: tblG) ({ frames := 3, cells := 0, slots := 0, locals := 63 }) (va_Pc [.ref (gL g 31), .int a1, .int a2] (tPre g P σ sz)) (tQ (some (.int r)) (tPost g P τ (va_A (wC g P σ) sz)) (va_A (wC g P σ) sz)) 0 0 (va_A (wC g P σ) sz) := by
  refine T_start (B := fun A => tPost g P τ A) (by decide) (Nat.le_of_ble_eq_true rfl) ?_
  intro p e s m args below meth c ls0 A hx hb hml hr hown hlocks ht hnm hK hZ hA hB0 hl0
  have hb_118 : ∀ (σ1 : Hp) (H : Heap) (locs : List Loc) (ls : Array Slot), f_X4_readNumber_b118 σ1 = some (r, τ) → tB g P σ1 A s.heap H locs → lv_has ls 4 [(0, .ref (gL g 31))] → WQ p l e { frames := 3, cells := 0, slots := 0, locals := 63 } s m args below meth c g P A (some (.int r)) τ H locs (F0 m 118 ls []) := by
    intro σ1 H locs ls h hB hl
    unfold f_X4_readNumber_b118 at h
    refine lv_aload_n hx hb dX4_readNumber_118 rfl (lv_at hl 0 rfl) ?_
    refine lv_aload_n hx hb dX4_readNumber_119 rfl (lv_at hl 0 rfl) ?_
    refine R_get (v := .int (hI σ1 31 4)) hx hb ht ui_X4 hown hK hB (by decide) (cell_7 rfl) rfl 4 (by decide) (ht _ tw114) (fun _ h9 => h9) rfl dX4_readNumber_120 ?_
    replace h := b2_eq h; obtain ⟨r_7, s_8, hc_9, h⟩ := h
    refine R_call (rest := []) [.int r_7] (R_runV (n := 1) (As := [.int (hI σ1 31 4)]) ⟨hx, hb, hml, hown, ht⟩ (fun _ h9 => h9) hK hZ hA hB (c_X4_failAt l g P σ1 (hI σ1 31 4) H.size hc_9) (R_recv hK hB (by decide) (cell_7 rfl) rfl) tw561 tw558 tw560 pw8 tw4 ⟨by decide, by decide, by decide⟩ rfl rfl ⟨Nat.le_of_ble_eq_true rfl, Nat.le_of_ble_eq_true rfl⟩ rfl hl.1 rfl (Nat.le_of_ble_eq_true rfl) dX4_readNumber_123 ⟨Nat.zero_le _, Nat.zero_le _⟩) hB hA rfl (fun H locs hB => ?_)
    replace h := ck_eq h; obtain ⟨q_10, h⟩ := h
    obtain ⟨rfl, rfl⟩ := Prod.mk.inj (Option.some.inj h)
    exact W.zret hx hb hr (isB_eq q_10) (R_end hB) hB.2.2.2.2 dX4_readNumber_126
  have hb_91 : ∀ (x1 : Int32) (x2 : Int32) (σ1 : Hp) (H : Heap) (locs : List Loc) (ls : Array Slot), f_X4_readNumber_b91 x1 x2 σ1 = some (r, τ) → tB g P σ1 A s.heap H locs → lv_has ls 4 [(0, .ref (gL g 31)), (1, .int x1), (2, .int x2)] → WQ p l e { frames := 3, cells := 0, slots := 0, locals := 63 } s m args below meth c g P A (some (.int r)) τ H locs (F0 m 91 ls []) := by
    intro x1 x2 σ1 H locs ls h hB hl
    unfold f_X4_readNumber_b91 at h
    refine lv_aload_n hx hb dX4_readNumber_91 rfl (lv_at hl 0 rfl) ?_
    refine R_get (v := .int (hI σ1 31 2)) hx hb ht ui_X4 hown hK hB (by decide) (cell_7 rfl) rfl 2 (by decide) (ht _ tw112) (fun _ h9 => h9) rfl dX4_readNumber_92 ?_
    refine lv_aload_n hx hb dX4_readNumber_95 rfl (lv_at hl 0 rfl) ?_
    refine R_get (v := .int (hI σ1 31 4)) hx hb ht ui_X4 hown hK hB (by decide) (cell_7 rfl) rfl 4 (by decide) (ht _ tw114) (fun _ h9 => h9) rfl dX4_readNumber_96 ?_
    refine lv_icmp_eq (tgt := 118) hx hb dX4_readNumber_99 (by decide) (fun c_6 => ?_) (fun c_6 => ?_)
    · replace h := itp h c_6
      exact hb_118 σ1 H locs ls h hB (lv_sub hl [0] rfl)
    · replace h := itn h c_6
      refine lv_aload_n hx hb dX4_readNumber_102 rfl (lv_at hl 0 rfl) ?_
      refine R_get (v := .int (hI σ1 31 3)) hx hb ht ui_X4 hown hK hB (by decide) (cell_7 rfl) rfl 3 (by decide) (ht _ tw113) (fun _ h9 => h9) rfl dX4_readNumber_103 ?_
      refine lv_iload_n hx hb dX4_readNumber_106 rfl (lv_at hl 1 rfl) ?_
      refine lv_icmp_lt (tgt := 118) hx hb dX4_readNumber_107 (by decide) (fun c_11 => ?_) (fun c_11 => ?_)
      · replace h := itp h c_11
        exact hb_118 σ1 H locs ls h hB (lv_sub hl [0] rfl)
      · replace h := itn h c_11
        refine lv_aload_n hx hb dX4_readNumber_110 rfl (lv_at hl 0 rfl) ?_
        refine R_get (v := .int (hI σ1 31 3)) hx hb ht ui_X4 hown hK hB (by decide) (cell_7 rfl) rfl 3 (by decide) (ht _ tw113) (fun _ h9 => h9) rfl dX4_readNumber_111 ?_
        refine lv_iload_n hx hb dX4_readNumber_114 rfl (lv_at hl 2 rfl) ?_
        refine lv_icmp_le (tgt := 127) hx hb dX4_readNumber_115 (by decide) (fun c_12 => ?_) (fun c_12 => ?_)
        · replace h := itp h c_12
          refine lv_iconst (v := 1) hx hb dX4_readNumber_127 (by decide) ?_
          obtain ⟨rfl, rfl⟩ := Prod.mk.inj (Option.some.inj h)
          exact W.zret hx hb hr rfl (R_end hB) hB.2.2.2.2 dX4_readNumber_128
        · replace h := itn h c_12
          exact hb_118 σ1 H locs ls h hB (lv_sub hl [0] rfl)
  have hL_26 : ∀ (x1 : Int32) (x2 : Int32) (n : Nat) (x3 : Int32) (σ1 : Hp) (H : Heap) (locs : List Loc) (ls : Array Slot), iter (f_X4_readNumber_s26 x1 x2) n (x3, σ1) = some (r, τ) → tB g P σ1 A s.heap H locs → lv_has ls 4 [(0, .ref (gL g 31)), (1, .int x1), (2, .int x2), (3, .int x3)] → WQ p l e { frames := 3, cells := 0, slots := 0, locals := 63 } s m args below meth c g P A (some (.int r)) τ H locs (F0 m 26 ls []) := by
    intro x1 x2 n
    induction n with
    | zero =>
      intro x3 σ1 H locs ls h hB hl
      exact (iter_0 h).elim
    | succ n ih1 =>
      intro x3 σ1 H locs ls h hB hl
      replace h := iter_eq h; obtain ⟨z1, hh1, hx1⟩ := h
      have h : f_X4_readNumber_t26 x1 x2 x3 σ1 = some z1 := hh1
      clear hh1
      unfold f_X4_readNumber_t26 at h
      refine lv_iload_n hx hb dX4_readNumber_26 rfl (lv_at hl 3 rfl) ?_
      refine lv_bipush (v := 6) hx hb dX4_readNumber_27 (by decide) ?_
      refine lv_icmp_ge (tgt := 91) hx hb dX4_readNumber_29 (by decide) (fun c_5 => ?_) (fun c_5 => ?_)
      · replace h := itp h c_5
        replace h := ex_eq h; obtain ⟨b1, h, hz1⟩ := h
        subst hz1
        have hz1 := (itk_inr hx1).symm
        subst hz1
        exact hb_91 x1 x2 σ1 H locs ls h hB (lv_sub hl [0, 1, 2] rfl)
      · replace h := itn h c_5
        refine lv_aload_n hx hb dX4_readNumber_32 rfl (lv_at hl 0 rfl) ?_
        refine R_get (v := va_rf (Option.map (gL g) (hR σ1 31 1))) hx hb ht ui_X4 hown hK hB (by decide) (cell_7 rfl) rfl 1 (by decide) (ht _ tw111) (fun _ h9 => h9) rfl dX4_readNumber_33 ?_
        replace h := nn_eq h; obtain ⟨y_13, hy_14, h⟩ := h
        replace h := ck_eq h; obtain ⟨q_15, h⟩ := h
        refine W.stk (v' := .ref (gL g y_13)) (by rw [hy_14]; rfl) ?_
        refine lv_aload_n hx hb dX4_readNumber_36 rfl (lv_at hl 0 rfl) ?_
        refine R_get (v := .int (hI σ1 31 2)) hx hb ht ui_X4 hown hK hB (by decide) (cell_7 rfl) rfl 2 (by decide) (ht _ tw112) (fun _ h9 => h9) rfl dX4_readNumber_37 ?_
        replace h := b2_eq h; obtain ⟨r_16, s_17, hc_18, h⟩ := h
        refine R_call (rest := []) [.int r_16] (R_runV (n := 1) (As := [.int (hI σ1 31 2)]) ⟨hx, hb, hml, hown, ht⟩ (fun _ h9 => h9) hK hZ hA hB (c_X5_letterAt l g P σ1 y_13 (hI σ1 31 2) q_15 H.size hc_18) (R_recv hK hB (ky_in _ (by rw [q_15]; decide)) (cell_6 q_15) rfl) tw495 tw492 tw493 tw494 tw3 ⟨by decide, by decide, by decide⟩ rfl rfl ⟨Nat.le_of_ble_eq_true rfl, Nat.le_of_ble_eq_true rfl⟩ rfl hl.1 rfl (Nat.le_of_ble_eq_true rfl) dX4_readNumber_40 ⟨Nat.zero_le _, Nat.zero_le _⟩) hB hA rfl (fun H locs hB => ?_)
        replace h := b2_eq h; obtain ⟨r_19, s_20, hc_21, h⟩ := h
        refine R_call (rest := []) [.int r_19] (R_runS (n := 1) (As := [.int r_16]) ⟨hx, hb, hml, hown, ht⟩ (fun _ h9 => h9) hK hZ hA hB (c_X4_isDigit l g P s_17 r_16 H.size hc_21) tw568 tw566 tw567 tw4 ⟨by decide, by decide, by decide⟩ rfl rfl ⟨Nat.le_of_ble_eq_true rfl, Nat.le_of_ble_eq_true rfl⟩ rfl hl.1 rfl (Nat.le_of_ble_eq_true rfl) dX4_readNumber_43 ⟨Nat.zero_le _, Nat.zero_le _⟩) hB hA rfl (fun H locs hB => ?_)
        refine lv_if_eq (tgt := 91) hx hb dX4_readNumber_46 (by decide) (fun c_22 => ?_) (fun c_22 => ?_)
        · replace h := itp h c_22
          replace h := ex_eq h; obtain ⟨b1, h, hz1⟩ := h
          subst hz1
          have hz1 := (itk_inr hx1).symm
          subst hz1
          exact hb_91 x1 x2 s_20 H locs ls h hB (lv_sub hl [0, 1, 2] rfl)
        · replace h := itn h c_22
          refine lv_aload_n hx hb dX4_readNumber_49 rfl (lv_at hl 0 rfl) ?_
          refine lv_aload_n hx hb dX4_readNumber_50 rfl (lv_at hl 0 rfl) ?_
          refine R_get (v := .int (hI s_20 31 3)) hx hb ht ui_X4 hown hK hB (by decide) (cell_7 rfl) rfl 3 (by decide) (ht _ tw113) (fun _ h9 => h9) rfl dX4_readNumber_51 ?_
          refine lv_bipush (v := 10) hx hb dX4_readNumber_54 (by decide) ?_
          refine lv_imul hx hb dX4_readNumber_56 ?_
          refine lv_aload_n hx hb dX4_readNumber_57 rfl (lv_at hl 0 rfl) ?_
          refine R_get (v := va_rf (Option.map (gL g) (hR s_20 31 1))) hx hb ht ui_X4 hown hK hB (by decide) (cell_7 rfl) rfl 1 (by decide) (ht _ tw111) (fun _ h9 => h9) rfl dX4_readNumber_58 ?_
          replace h := nn_eq h; obtain ⟨y_23, hy_24, h⟩ := h
          replace h := ck_eq h; obtain ⟨q_25, h⟩ := h
          refine W.stk (v' := .ref (gL g y_23)) (by rw [hy_24]; rfl) ?_
          refine lv_aload_n hx hb dX4_readNumber_61 rfl (lv_at hl 0 rfl) ?_
          refine R_get (v := .int (hI s_20 31 2)) hx hb ht ui_X4 hown hK hB (by decide) (cell_7 rfl) rfl 2 (by decide) (ht _ tw112) (fun _ h9 => h9) rfl dX4_readNumber_62 ?_
          replace h := b2_eq h; obtain ⟨r_26, s_27, hc_28, h⟩ := h
          refine R_call (rest := [.int ((hI s_20 31 3) * (10 : Int32)), .ref (gL g 31)]) [.int r_26, .int ((hI s_20 31 3) * (10 : Int32)), .ref (gL g 31)] (R_runV (n := 1) (As := [.int (hI s_20 31 2)]) ⟨hx, hb, hml, hown, ht⟩ (fun _ h9 => h9) hK hZ hA hB (c_X5_letterAt l g P s_20 y_23 (hI s_20 31 2) q_25 H.size hc_28) (R_recv hK hB (ky_in _ (by rw [q_25]; decide)) (cell_6 q_25) rfl) tw495 tw492 tw493 tw494 tw3 ⟨by decide, by decide, by decide⟩ rfl rfl ⟨Nat.le_of_ble_eq_true rfl, Nat.le_of_ble_eq_true rfl⟩ rfl hl.1 rfl (Nat.le_of_ble_eq_true rfl) dX4_readNumber_65 ⟨Nat.zero_le _, Nat.zero_le _⟩) hB hA rfl (fun H locs hB => ?_)
          refine lv_iadd hx hb dX4_readNumber_68 ?_
          refine lv_bipush (v := 48) hx hb dX4_readNumber_69 (by decide) ?_
          refine lv_isub hx hb dX4_readNumber_71 ?_
          refine R_putI (v := ((((hI s_20 31 3) * (10 : Int32)) + r_26) - (48 : Int32))) (ty := .int) hx hb ht ui_X4 tyX4 tyX4_ok nmX4 hown hK hB (by decide) (cell_7 rfl) rfl 3 (by decide) (ht _ tw113) (fun _ h9 => h9) rfl (by decide +kernel) rfl rfl (Nat.le_of_ble_eq_true rfl) (st7_3 rfl) dX4_readNumber_72 (fun H locs hB => ?_)
          refine lv_aload_n hx hb dX4_readNumber_75 rfl (lv_at hl 0 rfl) ?_
          refine lv_dup hx hb dX4_readNumber_76 rfl ?_
          refine R_get (v := .int (hI (sI s_27 31 3 ((((hI s_20 31 3) * (10 : Int32)) + r_26) - (48 : Int32))) 31 2)) hx hb ht ui_X4 hown hK hB (by decide) (cell_7 rfl) rfl 2 (by decide) (ht _ tw112) (fun _ h9 => h9) rfl dX4_readNumber_77 ?_
          refine lv_iconst (v := 1) hx hb dX4_readNumber_80 (by decide) ?_
          refine lv_iadd hx hb dX4_readNumber_81 ?_
          refine R_putI (v := ((hI (sI s_27 31 3 ((((hI s_20 31 3) * (10 : Int32)) + r_26) - (48 : Int32))) 31 2) + (1 : Int32))) (ty := .int) hx hb ht ui_X4 tyX4 tyX4_ok nmX4 hown hK hB (by decide) (cell_7 rfl) rfl 2 (by decide) (ht _ tw112) (fun _ h9 => h9) rfl (by decide +kernel) rfl rfl (Nat.le_of_ble_eq_true rfl) (st7_2 rfl) dX4_readNumber_82 (fun H locs hB => ?_)
          refine lv_iinc (v := x3 + 1) (lv' := [(3, .int (x3 + 1)), (0, .ref (gL g 31)), (1, .int x1), (2, .int x2)]) hx hb dX4_readNumber_85 hl (k := 3) rfl rfl (by decide) rfl (fun ls hl => ?_)
          refine lv_goto (tgt := 26) hx hb dX4_readNumber_88 (by decide) ?_
          obtain rfl := Option.some.inj h
          exact ih1 (x3 + 1) (sI (sI s_27 31 3 ((((hI s_20 31 3) * (10 : Int32)) + r_26) - (48 : Int32))) 31 2 ((hI (sI s_27 31 3 ((((hI s_20 31 3) * (10 : Int32)) + r_26) - (48 : Int32))) 31 2) + (1 : Int32))) H locs ls hx1 hB (lv_sub hl [1, 2, 3, 0] rfl)
  suffices hmain : ∀ (H : Heap) (locs : List Loc) (ls : Array Slot), tB g P σ A s.heap H locs → lv_has ls 4 [(0, .ref (gL g 31)), (1, .int a1), (2, .int a2)] → WQ p l e { frames := 3, cells := 0, slots := 0, locals := 63 } s m args below meth c g P A (some (.int r)) τ H locs (F0 m 0 ls []) from hmain _ _ ls0 hB0 hl0
  intro H locs ls hB hl
  unfold f_X4_readNumber at h
  refine lv_aload_n hx hb dX4_readNumber_0 rfl (lv_at hl 0 rfl) ?_
  refine lv_bipush (v := 32) hx hb dX4_readNumber_1 (by decide) ?_
  replace h := b2_eq h; obtain ⟨r_1, s_2, hc_3, h⟩ := h
  refine R_call (rest := []) [.int r_1] (R_runV (n := 1) (As := [.int (32 : Int32)]) ⟨hx, hb, hml, hown, ht⟩ (fun _ h9 => h9) hK hZ hA hB (c_X4_readSign l g P σ (32 : Int32) H.size hc_3) (R_recv hK hB (by decide) (cell_7 rfl) rfl) tw557 tw554 tw556 pw7 tw4 ⟨by decide, by decide, by decide⟩ rfl rfl ⟨Nat.le_of_ble_eq_true rfl, Nat.le_of_ble_eq_true rfl⟩ rfl hl.1 rfl (Nat.le_of_ble_eq_true rfl) dX4_readNumber_3 ⟨Nat.zero_le _, Nat.zero_le _⟩) hB hA rfl (fun H locs hB => ?_)
  refine lv_if_ne (tgt := 11) hx hb dX4_readNumber_6 (by decide) (fun c_4 => ?_) (fun c_4 => ?_)
  · replace h := itn h c_4
    refine lv_aload_n hx hb dX4_readNumber_11 rfl (lv_at hl 0 rfl) ?_
    refine lv_aload_n hx hb dX4_readNumber_12 rfl (lv_at hl 0 rfl) ?_
    refine R_get (v := .int (hI s_2 31 2)) hx hb ht ui_X4 hown hK hB (by decide) (cell_7 rfl) rfl 2 (by decide) (ht _ tw112) (fun _ h9 => h9) rfl dX4_readNumber_13 ?_
    refine R_putI (v := (hI s_2 31 2)) (ty := .int) hx hb ht ui_X4 tyX4 tyX4_ok nmX4 hown hK hB (by decide) (cell_7 rfl) rfl 4 (by decide) (ht _ tw114) (fun _ h9 => h9) rfl (by decide +kernel) rfl rfl (Nat.le_of_ble_eq_true rfl) (st7_4 rfl) dX4_readNumber_16 (fun H locs hB => ?_)
    refine lv_aload_n hx hb dX4_readNumber_19 rfl (lv_at hl 0 rfl) ?_
    refine lv_iconst (v := 0) hx hb dX4_readNumber_20 (by decide) ?_
    refine R_putI (v := (0 : Int32)) (ty := .int) hx hb ht ui_X4 tyX4 tyX4_ok nmX4 hown hK hB (by decide) (cell_7 rfl) rfl 3 (by decide) (ht _ tw113) (fun _ h9 => h9) rfl (by decide +kernel) rfl rfl (Nat.le_of_ble_eq_true rfl) (st7_3 rfl) dX4_readNumber_21 (fun H locs hB => ?_)
    refine lv_iconst (v := 0) hx hb dX4_readNumber_24 (by decide) ?_
    refine lv_istore_n (lv' := [(3, .int (0 : Int32)), (0, .ref (gL g 31)), (1, .int a1), (2, .int a2)]) hx hb dX4_readNumber_25 rfl hl (by decide) rfl (fun ls hl => ?_)
    exact hL_26 a1 a2 fuel (0 : Int32) (sI (sI s_2 31 4 (hI s_2 31 2)) 31 3 (0 : Int32)) H locs ls h hB (lv_sub hl [1, 2, 3, 0] rfl)
  · replace h := itp h c_4
    refine lv_iconst (v := 0) hx hb dX4_readNumber_9 (by decide) ?_
    obtain ⟨rfl, rfl⟩ := Prod.mk.inj (Option.some.inj h)
    exact W.zret hx hb hr rfl (R_end hB) hB.2.2.2.2 dX4_readNumber_10
def f_X4_readWord_t2 (x1 : Nat) (x2 : Int32) (σ1 : Hp) : Option ((Int32 × Hp) ⊕ (Int32 × Hp)) := b2 (f_J0_length_8abf5 x1 σ1) (fun r_1 s_2 => if r_1 ≤ x2 then ex (some ((1 : Int32), s_2)) else b2 (f_J0_charAt_5068e x1 x2 s_2) (fun r_5 s_6 => b2 (f_X4_readSign r_5 s_6) (fun r_8 s_9 => if r_8 = 0 then ex (some ((0 : Int32), s_9)) else some (.inl ((x2 + 1), s_9)))))
def f_X4_readWord_s2 (x1 : Nat) (v : (Int32 × Hp)) : Option ((Int32 × Hp) ⊕ (Int32 × Hp)) := f_X4_readWord_t2 x1 v.1 v.2
def f_X4_readWord (i1 : Nat) (σ : Hp) : Option (Int32 × Hp) := iter (f_X4_readWord_s2 i1) fuel ((0 : Int32), σ)
set_option maxHeartbeats 4000000 in
set_option maxRecDepth 100000 in
theorem c_X4_readWord (l : Launch) (g : tG) (P : Nat → Nat) (σ : Hp) (i1 : Nat) (hk_i1 : i1 < 5) (sz : Nat) {r : Int32} {τ : Hp} (h : f_X4_readWord i1 σ = some (r, τ)) : Met l yX4_readWord (Cond.code yX4_readWord cX4_readWord 3 (some .boolean) :: tblG) ({ frames := 4, cells := 0, slots := 0, locals := 85 }) (va_Pc [.ref (gL g 31), .ref (gK g i1)] (tPre g P σ sz)) (tQ (some (.int r)) (tPost g P τ (va_A (wC g P σ) sz)) (va_A (wC g P σ) sz)) 0 0 (va_A (wC g P σ) sz) := by
  refine T_start (B := fun A => tPost g P τ A) (by decide) (Nat.le_of_ble_eq_true rfl) ?_
  intro p e s m args below meth c ls0 A hx hb hml hr hown hlocks ht hnm hK hZ hA hB0 hl0
  have hL_2 : ∀ (x1 : Nat) (hk_x1 : x1 < 5) (n : Nat) (x2 : Int32) (σ1 : Hp) (H : Heap) (locs : List Loc) (ls : Array Slot), iter (f_X4_readWord_s2 x1) n (x2, σ1) = some (r, τ) → tB g P σ1 A s.heap H locs → lv_has ls 3 [(0, .ref (gL g 31)), (1, .ref (gK g x1)), (2, .int x2)] → WQ p l e { frames := 4, cells := 0, slots := 0, locals := 85 } s m args below meth c g P A (some (.int r)) τ H locs (F0 m 2 ls []) := by
    intro x1 hk_x1 n
    induction n with
    | zero =>
      intro x2 σ1 H locs ls h hB hl
      exact (iter_0 h).elim
    | succ n ih1 =>
      intro x2 σ1 H locs ls h hB hl
      replace h := iter_eq h; obtain ⟨z1, hh1, hx1⟩ := h
      have h : f_X4_readWord_t2 x1 x2 σ1 = some z1 := hh1
      clear hh1
      unfold f_X4_readWord_t2 at h
      refine lv_iload_n hx hb dX4_readWord_2 rfl (lv_at hl 2 rfl) ?_
      refine lv_aload_n hx hb dX4_readWord_3 rfl (lv_at hl 1 rfl) ?_
      replace h := b2_eq h; obtain ⟨r_1, s_2, hc_3, h⟩ := h
      refine R_call (rest := [.int x2]) [.int r_1, .int x2] (R_runV (n := 0) (As := []) ⟨hx, hb, hml, hown, ht⟩ (fun _ h9 => h9) hK hZ hA hB (c_J0_length_8abf5 l g P σ1 x1 hk_x1 H.size hc_3) (vk_recv hZ.1 hk_x1 hB.2.2) tw509 tw506 tw507 tw508 tw17 ⟨by decide, by decide, by decide⟩ rfl rfl ⟨Nat.le_of_ble_eq_true rfl, Nat.le_of_ble_eq_true rfl⟩ rfl hl.1 rfl (Nat.le_of_ble_eq_true rfl) dX4_readWord_4 ⟨Nat.zero_le _, Nat.zero_le _⟩) hB hA rfl (fun H locs hB => ?_)
      refine lv_icmp_ge (tgt := 30) hx hb dX4_readWord_7 (by decide) (fun c_4 => ?_) (fun c_4 => ?_)
      · replace h := itp h c_4
        replace h := ex_eq h; obtain ⟨b1, h, hz1⟩ := h
        subst hz1
        have hz1 := (itk_inr hx1).symm
        subst hz1
        refine lv_iconst (v := 1) hx hb dX4_readWord_30 (by decide) ?_
        obtain ⟨rfl, rfl⟩ := Prod.mk.inj (Option.some.inj h)
        exact W.zret hx hb hr rfl (R_end hB) hB.2.2.2.2 dX4_readWord_31
      · replace h := itn h c_4
        refine lv_aload_n hx hb dX4_readWord_10 rfl (lv_at hl 0 rfl) ?_
        refine lv_aload_n hx hb dX4_readWord_11 rfl (lv_at hl 1 rfl) ?_
        refine lv_iload_n hx hb dX4_readWord_12 rfl (lv_at hl 2 rfl) ?_
        replace h := b2_eq h; obtain ⟨r_5, s_6, hc_7, h⟩ := h
        refine R_call (rest := [.ref (gL g 31)]) [.int r_5, .ref (gL g 31)] (R_runV (n := 1) (As := [.int x2]) ⟨hx, hb, hml, hown, ht⟩ (fun _ h9 => h9) hK hZ hA hB (c_J0_charAt_5068e l g P s_2 x1 x2 hk_x1 H.size hc_7) (vk_recv hZ.1 hk_x1 hB.2.2) tw519 tw516 tw517 tw518 tw17 ⟨by decide, by decide, by decide⟩ rfl rfl ⟨Nat.le_of_ble_eq_true rfl, Nat.le_of_ble_eq_true rfl⟩ rfl hl.1 rfl (Nat.le_of_ble_eq_true rfl) dX4_readWord_13 ⟨Nat.zero_le _, Nat.zero_le _⟩) hB hA rfl (fun H locs hB => ?_)
        replace h := b2_eq h; obtain ⟨r_8, s_9, hc_10, h⟩ := h
        refine R_call (rest := []) [.int r_8] (R_runV (n := 1) (As := [.int r_5]) ⟨hx, hb, hml, hown, ht⟩ (fun _ h9 => h9) hK hZ hA hB (c_X4_readSign l g P s_6 r_5 H.size hc_10) (R_recv hK hB (by decide) (cell_7 rfl) rfl) tw557 tw554 tw556 pw7 tw4 ⟨by decide, by decide, by decide⟩ rfl rfl ⟨Nat.le_of_ble_eq_true rfl, Nat.le_of_ble_eq_true rfl⟩ rfl hl.1 rfl (Nat.le_of_ble_eq_true rfl) dX4_readWord_16 ⟨Nat.zero_le _, Nat.zero_le _⟩) hB hA rfl (fun H locs hB => ?_)
        refine lv_if_ne (tgt := 24) hx hb dX4_readWord_19 (by decide) (fun c_11 => ?_) (fun c_11 => ?_)
        · replace h := itn h c_11
          refine lv_iinc (v := x2 + 1) (lv' := [(2, .int (x2 + 1)), (0, .ref (gL g 31)), (1, .ref (gK g x1))]) hx hb dX4_readWord_24 hl (k := 2) rfl rfl (by decide) rfl (fun ls hl => ?_)
          refine lv_goto (tgt := 2) hx hb dX4_readWord_27 (by decide) ?_
          obtain rfl := Option.some.inj h
          exact ih1 (x2 + 1) s_9 H locs ls hx1 hB (lv_sub hl [1, 2, 0] rfl)
        · replace h := itp h c_11
          replace h := ex_eq h; obtain ⟨b1, h, hz1⟩ := h
          subst hz1
          have hz1 := (itk_inr hx1).symm
          subst hz1
          refine lv_iconst (v := 0) hx hb dX4_readWord_22 (by decide) ?_
          obtain ⟨rfl, rfl⟩ := Prod.mk.inj (Option.some.inj h)
          exact W.zret hx hb hr rfl (R_end hB) hB.2.2.2.2 dX4_readWord_23
  suffices hmain : ∀ (H : Heap) (locs : List Loc) (ls : Array Slot), tB g P σ A s.heap H locs → lv_has ls 3 [(0, .ref (gL g 31)), (1, .ref (gK g i1))] → WQ p l e { frames := 4, cells := 0, slots := 0, locals := 85 } s m args below meth c g P A (some (.int r)) τ H locs (F0 m 0 ls []) from hmain _ _ ls0 hB0 hl0
  intro H locs ls hB hl
  unfold f_X4_readWord at h
  refine lv_iconst (v := 0) hx hb dX4_readWord_0 (by decide) ?_
  refine lv_istore_n (lv' := [(2, .int (0 : Int32)), (0, .ref (gL g 31)), (1, .ref (gK g i1))]) hx hb dX4_readWord_1 rfl hl (by decide) rfl (fun ls hl => ?_)
  exact hL_2 i1 hk_i1 fuel (0 : Int32) σ H locs ls h hB (lv_sub hl [1, 2, 0] rfl)
def f_X4_readBase (σ : Hp) : Option (Int32 × Hp) := b2 (f_X4_readWord 0 σ) (fun r_1 s_2 => if r_1 = 0 then some ((0 : Int32), s_2) else b2 (f_X4_readNumber (2 : Int32) (10 : Int32) s_2) (fun r_5 s_6 => if r_5 = 0 then some ((0 : Int32), s_6) else some ((1 : Int32), (sI s_6 2 0 (hI s_6 31 3)))))
set_option maxHeartbeats 4000000 in
set_option maxRecDepth 100000 in
theorem c_X4_readBase (l : Launch) (g : tG) (P : Nat → Nat) (σ : Hp) (sz : Nat) {r : Int32} {τ : Hp} (h : f_X4_readBase σ = some (r, τ)) : Met l yX4_readBase (Cond.code yX4_readBase cX4_readBase 1 (some .boolean) :: tblG) ({ frames := 5, cells := 0, slots := 0, locals := 107 }) (va_Pc [.ref (gL g 31)] (tPre g P σ sz)) (tQ (some (.int r)) (tPost g P τ (va_A (wC g P σ) sz)) (va_A (wC g P σ) sz)) 0 0 (va_A (wC g P σ) sz) := by
  refine T_start (B := fun A => tPost g P τ A) (by decide) (Nat.le_of_ble_eq_true rfl) ?_
  intro p e s m args below meth c ls0 A hx hb hml hr hown hlocks ht hnm hK hZ hA hB0 hl0
  suffices hmain : ∀ (H : Heap) (locs : List Loc) (ls : Array Slot), tB g P σ A s.heap H locs → lv_has ls 1 [(0, .ref (gL g 31))] → WQ p l e { frames := 5, cells := 0, slots := 0, locals := 107 } s m args below meth c g P A (some (.int r)) τ H locs (F0 m 0 ls []) from hmain _ _ ls0 hB0 hl0
  intro H locs ls hB hl
  unfold f_X4_readBase at h
  refine lv_aload_n hx hb dX4_readBase_0 rfl (lv_at hl 0 rfl) ?_
  refine va_ldcS hx hb hown (hK.2.2.1 0 (by decide)) dX4_readBase_1 ?_
  replace h := b2_eq h; obtain ⟨r_1, s_2, hc_3, h⟩ := h
  refine R_call (rest := []) [.int r_1] (R_runV (n := 1) (As := [.ref (gK g 0)]) ⟨hx, hb, hml, hown, ht⟩ (fun _ h9 => h9) hK hZ hA hB (c_X4_readWord l g P σ 0 (by decide) H.size hc_3) (R_recv hK hB (by decide) (cell_7 rfl) rfl) tw505 tw502 tw504 pw6 tw4 ⟨by decide, by decide, by decide⟩ rfl rfl ⟨Nat.le_of_ble_eq_true rfl, Nat.le_of_ble_eq_true rfl⟩ rfl hl.1 rfl (Nat.le_of_ble_eq_true rfl) dX4_readBase_3 ⟨Nat.zero_le _, Nat.zero_le _⟩) hB hA rfl (fun H locs hB => ?_)
  refine lv_if_eq (tgt := 19) hx hb dX4_readBase_6 (by decide) (fun c_4 => ?_) (fun c_4 => ?_)
  · replace h := itp h c_4
    refine lv_iconst (v := 0) hx hb dX4_readBase_19 (by decide) ?_
    obtain ⟨rfl, rfl⟩ := Prod.mk.inj (Option.some.inj h)
    exact W.zret hx hb hr rfl (R_end hB) hB.2.2.2.2 dX4_readBase_20
  · replace h := itn h c_4
    refine lv_aload_n hx hb dX4_readBase_9 rfl (lv_at hl 0 rfl) ?_
    refine lv_iconst (v := 2) hx hb dX4_readBase_10 (by decide) ?_
    refine lv_bipush (v := 10) hx hb dX4_readBase_11 (by decide) ?_
    replace h := b2_eq h; obtain ⟨r_5, s_6, hc_7, h⟩ := h
    refine R_call (rest := []) [.int r_5] (R_runV (n := 2) (As := [.int (2 : Int32), .int (10 : Int32)]) ⟨hx, hb, hml, hown, ht⟩ (fun _ h9 => h9) hK hZ hA hB (c_X4_readNumber l g P s_2 (2 : Int32) (10 : Int32) H.size hc_7) (R_recv hK hB (by decide) (cell_7 rfl) rfl) tw565 tw562 tw564 pw9 tw4 ⟨by decide, by decide, by decide⟩ rfl rfl ⟨Nat.le_of_ble_eq_true rfl, Nat.le_of_ble_eq_true rfl⟩ rfl hl.1 rfl (Nat.le_of_ble_eq_true rfl) dX4_readBase_13 ⟨Nat.zero_le _, Nat.zero_le _⟩) hB hA rfl (fun H locs hB => ?_)
    refine lv_if_ne (tgt := 21) hx hb dX4_readBase_16 (by decide) (fun c_8 => ?_) (fun c_8 => ?_)
    · replace h := itn h c_8
      refine lv_aload_n hx hb dX4_readBase_21 rfl (lv_at hl 0 rfl) ?_
      refine R_get (v := .ref (gL g 2)) hx hb ht ui_X4 hown hK hB (by decide) (cell_7 rfl) rfl 0 (by decide) (ht _ tw109) (fun _ h9 => h9) rfl dX4_readBase_22 ?_
      refine lv_aload_n hx hb dX4_readBase_25 rfl (lv_at hl 0 rfl) ?_
      refine R_get (v := .int (hI s_6 31 3)) hx hb ht ui_X4 hown hK hB (by decide) (cell_7 rfl) rfl 3 (by decide) (ht _ tw113) (fun _ h9 => h9) rfl dX4_readBase_26 ?_
      refine R_putI (v := (hI s_6 31 3)) (ty := .int) hx hb ht ui_X7 tyX7 tyX7_ok nmX7 hown hK hB (by decide) (cell_1 rfl) rfl 0 (by decide) (ht _ tw45) (fun _ h9 => h9) rfl (by decide +kernel) rfl rfl (Nat.le_of_ble_eq_true rfl) (st1_0 rfl) dX4_readBase_29 (fun H locs hB => ?_)
      refine lv_iconst (v := 1) hx hb dX4_readBase_32 (by decide) ?_
      obtain ⟨rfl, rfl⟩ := Prod.mk.inj (Option.some.inj h)
      exact W.zret hx hb hr rfl (R_end hB) hB.2.2.2.2 dX4_readBase_33
    · replace h := itp h c_8
      refine lv_iconst (v := 0) hx hb dX4_readBase_19 (by decide) ?_
      obtain ⟨rfl, rfl⟩ := Prod.mk.inj (Option.some.inj h)
      exact W.zret hx hb hr rfl (R_end hB) hB.2.2.2.2 dX4_readBase_20
def f_X4_readValue_b54 (σ1 : Hp) : Option (Int32 × Hp) := b2 (f_X4_failAt (hI σ1 31 4) σ1) (fun r_13 s_14 => ck (isB r_13 = true) (some (r_13, s_14)))
def f_X4_readValue (σ : Hp) : Option (Int32 × Hp) := b2 (f_X4_readWord 2 σ) (fun r_1 s_2 => if r_1 = 0 then some ((0 : Int32), s_2) else b2 (f_X4_readNumber (0 : Int32) ((hI s_2 2 2) - (1 : Int32)) s_2) (fun r_5 s_6 => if r_5 = 0 then some ((0 : Int32), s_6) else b2 (f_X7_lawAt 2 (hI s_6 31 3) s_6) (fun r_9 s_10 => cs r_9 (f_X4_readValue_b54 s_10) (fun y_12 => ck (isLaw s_10 y_12 = true) (b2 (v_isUnder y_12 (5 : Int32) s_10) (fun r_18 s_19 => if r_18 = 0 then f_X4_readValue_b54 s_19 else b2 (f_X4_readNumber (0 : Int32) (9 : Int32) s_19) (fun r_22 s_23 => if r_22 = 0 then some ((0 : Int32), s_23) else b2 (f_X4_readNumber (0 : Int32) (999 : Int32) s_23) (fun r_26 s_27 => if r_26 = 0 then some ((0 : Int32), s_27) else b2 (f_X7_tellValue 2 (hI s_6 31 3) (hI s_23 31 3) (hI s_27 31 3) s_27) (fun r_30 s_31 => some ((1 : Int32), s_31))))))))))
set_option maxHeartbeats 4000000 in
set_option maxRecDepth 100000 in
theorem c_X4_readValue (l : Launch) (g : tG) (P : Nat → Nat) (σ : Hp) (sz : Nat) {r : Int32} {τ : Hp} (h : f_X4_readValue σ = some (r, τ)) : Met l yX4_readValue (Cond.code yX4_readValue cX4_readValue 4 (some .boolean) :: tblG) ({ frames := 5, cells := 0, slots := 0, locals := 107 }) (va_Pc [.ref (gL g 31)] (tPre g P σ sz)) (tQ (some (.int r)) (tPost g P τ (va_A (wC g P σ) sz)) (va_A (wC g P σ) sz)) 0 0 (va_A (wC g P σ) sz) := by
  refine T_start (B := fun A => tPost g P τ A) (by decide) (Nat.le_of_ble_eq_true rfl) ?_
  intro p e s m args below meth c ls0 A hx hb hml hr hown hlocks ht hnm hK hZ hA hB0 hl0
  have hb_54 : ∀ (σ1 : Hp) (H : Heap) (locs : List Loc) (ls : Array Slot), f_X4_readValue_b54 σ1 = some (r, τ) → tB g P σ1 A s.heap H locs → lv_has ls 4 [(0, .ref (gL g 31))] → WQ p l e { frames := 5, cells := 0, slots := 0, locals := 107 } s m args below meth c g P A (some (.int r)) τ H locs (F0 m 54 ls []) := by
    intro σ1 H locs ls h hB hl
    unfold f_X4_readValue_b54 at h
    refine lv_aload_n hx hb dX4_readValue_54 rfl (lv_at hl 0 rfl) ?_
    refine lv_aload_n hx hb dX4_readValue_55 rfl (lv_at hl 0 rfl) ?_
    refine R_get (v := .int (hI σ1 31 4)) hx hb ht ui_X4 hown hK hB (by decide) (cell_7 rfl) rfl 4 (by decide) (ht _ tw114) (fun _ h9 => h9) rfl dX4_readValue_56 ?_
    replace h := b2_eq h; obtain ⟨r_13, s_14, hc_15, h⟩ := h
    refine R_call (rest := []) [.int r_13] (R_runV (n := 1) (As := [.int (hI σ1 31 4)]) ⟨hx, hb, hml, hown, ht⟩ (fun _ h9 => h9) hK hZ hA hB (c_X4_failAt l g P σ1 (hI σ1 31 4) H.size hc_15) (R_recv hK hB (by decide) (cell_7 rfl) rfl) tw561 tw558 tw560 pw8 tw4 ⟨by decide, by decide, by decide⟩ rfl rfl ⟨Nat.le_of_ble_eq_true rfl, Nat.le_of_ble_eq_true rfl⟩ rfl hl.1 rfl (Nat.le_of_ble_eq_true rfl) dX4_readValue_59 ⟨Nat.zero_le _, Nat.zero_le _⟩) hB hA rfl (fun H locs hB => ?_)
    replace h := ck_eq h; obtain ⟨q_16, h⟩ := h
    obtain ⟨rfl, rfl⟩ := Prod.mk.inj (Option.some.inj h)
    exact W.zret hx hb hr (isB_eq q_16) (R_end hB) hB.2.2.2.2 dX4_readValue_62
  suffices hmain : ∀ (H : Heap) (locs : List Loc) (ls : Array Slot), tB g P σ A s.heap H locs → lv_has ls 4 [(0, .ref (gL g 31))] → WQ p l e { frames := 5, cells := 0, slots := 0, locals := 107 } s m args below meth c g P A (some (.int r)) τ H locs (F0 m 0 ls []) from hmain _ _ ls0 hB0 hl0
  intro H locs ls hB hl
  unfold f_X4_readValue at h
  refine lv_aload_n hx hb dX4_readValue_0 rfl (lv_at hl 0 rfl) ?_
  refine va_ldcS hx hb hown (hK.2.2.1 2 (by decide)) dX4_readValue_1 ?_
  replace h := b2_eq h; obtain ⟨r_1, s_2, hc_3, h⟩ := h
  refine R_call (rest := []) [.int r_1] (R_runV (n := 1) (As := [.ref (gK g 2)]) ⟨hx, hb, hml, hown, ht⟩ (fun _ h9 => h9) hK hZ hA hB (c_X4_readWord l g P σ 2 (by decide) H.size hc_3) (R_recv hK hB (by decide) (cell_7 rfl) rfl) tw505 tw502 tw504 pw6 tw4 ⟨by decide, by decide, by decide⟩ rfl rfl ⟨Nat.le_of_ble_eq_true rfl, Nat.le_of_ble_eq_true rfl⟩ rfl hl.1 rfl (Nat.le_of_ble_eq_true rfl) dX4_readValue_3 ⟨Nat.zero_le _, Nat.zero_le _⟩) hB hA rfl (fun H locs hB => ?_)
  refine lv_if_eq (tgt := 26) hx hb dX4_readValue_6 (by decide) (fun c_4 => ?_) (fun c_4 => ?_)
  · replace h := itp h c_4
    refine lv_iconst (v := 0) hx hb dX4_readValue_26 (by decide) ?_
    obtain ⟨rfl, rfl⟩ := Prod.mk.inj (Option.some.inj h)
    exact W.zret hx hb hr rfl (R_end hB) hB.2.2.2.2 dX4_readValue_27
  · replace h := itn h c_4
    refine lv_aload_n hx hb dX4_readValue_9 rfl (lv_at hl 0 rfl) ?_
    refine lv_iconst (v := 0) hx hb dX4_readValue_10 (by decide) ?_
    refine lv_aload_n hx hb dX4_readValue_11 rfl (lv_at hl 0 rfl) ?_
    refine R_get (v := .ref (gL g 2)) hx hb ht ui_X4 hown hK hB (by decide) (cell_7 rfl) rfl 0 (by decide) (ht _ tw109) (fun _ h9 => h9) rfl dX4_readValue_12 ?_
    refine R_get (v := .int (hI s_2 2 2)) hx hb ht ui_X7 hown hK hB (by decide) (cell_1 rfl) rfl 2 (by decide) (ht _ tw50) (fun _ h9 => h9) rfl dX4_readValue_15 ?_
    refine lv_iconst (v := 1) hx hb dX4_readValue_18 (by decide) ?_
    refine lv_isub hx hb dX4_readValue_19 ?_
    replace h := b2_eq h; obtain ⟨r_5, s_6, hc_7, h⟩ := h
    refine R_call (rest := []) [.int r_5] (R_runV (n := 2) (As := [.int (0 : Int32), .int ((hI s_2 2 2) - (1 : Int32))]) ⟨hx, hb, hml, hown, ht⟩ (fun _ h9 => h9) hK hZ hA hB (c_X4_readNumber l g P s_2 (0 : Int32) ((hI s_2 2 2) - (1 : Int32)) H.size hc_7) (R_recv hK hB (by decide) (cell_7 rfl) rfl) tw565 tw562 tw564 pw9 tw4 ⟨by decide, by decide, by decide⟩ rfl rfl ⟨Nat.le_of_ble_eq_true rfl, Nat.le_of_ble_eq_true rfl⟩ rfl hl.1 rfl (Nat.le_of_ble_eq_true rfl) dX4_readValue_20 ⟨Nat.zero_le _, Nat.zero_le _⟩) hB hA rfl (fun H locs hB => ?_)
    refine lv_if_ne (tgt := 28) hx hb dX4_readValue_23 (by decide) (fun c_8 => ?_) (fun c_8 => ?_)
    · replace h := itn h c_8
      refine lv_aload_n hx hb dX4_readValue_28 rfl (lv_at hl 0 rfl) ?_
      refine R_get (v := .int (hI s_6 31 3)) hx hb ht ui_X4 hown hK hB (by decide) (cell_7 rfl) rfl 3 (by decide) (ht _ tw113) (fun _ h9 => h9) rfl dX4_readValue_29 ?_
      refine lv_istore_n (lv' := [(1, .int (hI s_6 31 3)), (0, .ref (gL g 31))]) hx hb dX4_readValue_32 rfl hl (by decide) rfl (fun ls hl => ?_)
      refine lv_aload_n hx hb dX4_readValue_33 rfl (lv_at hl 1 rfl) ?_
      refine R_get (v := .ref (gL g 2)) hx hb ht ui_X4 hown hK hB (by decide) (cell_7 rfl) rfl 0 (by decide) (ht _ tw109) (fun _ h9 => h9) rfl dX4_readValue_34 ?_
      refine lv_iload_n hx hb dX4_readValue_37 rfl (lv_at hl 0 rfl) ?_
      replace h := b2_eq h; obtain ⟨r_9, s_10, hc_11, h⟩ := h
      refine R_call (rest := []) [va_rf (Option.map P r_9)] (R_runV (n := 1) (As := [.int (hI s_6 31 3)]) ⟨hx, hb, hml, hown, ht⟩ (fun _ h9 => h9) hK hZ hA hB (c_X7_lawAt l g P s_6 2 (hI s_6 31 3) rfl H.size hc_11) (R_recv hK hB (by decide) (cell_1 rfl) rfl) tw228 tw581 tw226 tw227 tw2 ⟨by decide, by decide, by decide⟩ rfl rfl ⟨Nat.le_of_ble_eq_true rfl, Nat.le_of_ble_eq_true rfl⟩ rfl hl.1 rfl (Nat.le_of_ble_eq_true rfl) dX4_readValue_38 ⟨Nat.zero_le _, Nat.zero_le _⟩) hB hA rfl (fun H locs hB => ?_)
      refine lv_astore_nR (lv' := [(2, va_rf (Option.map P r_9)), (1, .int (hI s_6 31 3)), (0, .ref (gL g 31))]) hx hb dX4_readValue_41 rfl hl (by decide) rfl (fun ls hl => ?_)
      refine lv_aload_nR hx hb dX4_readValue_42 rfl (lv_at hl 0 rfl) ?_
      rcases r_9 with _ | y_12
      · replace h := cs_n h
        have hl : lv_has ls 4 [(2, .null), (1, .int (hI s_6 31 3)), (0, .ref (gL g 31))] := hl
        refine lv_ifnullN (tgt := 54) hx hb dX4_readValue_43 (by decide) ?_
        exact hb_54 s_10 H locs ls h hB (lv_sub hl [2] rfl)
      · replace h := cs_s h
        have hl : lv_has ls 4 [(2, .ref (P y_12)), (1, .int (hI s_6 31 3)), (0, .ref (gL g 31))] := hl
        refine lv_ifnull hx hb dX4_readValue_43 ?_
        refine lv_aload_n hx hb dX4_readValue_46 rfl (lv_at hl 0 rfl) ?_
        refine lv_iconst (v := 5) hx hb dX4_readValue_47 (by decide) ?_
        replace h := ck_eq h; obtain ⟨q_17, h⟩ := h
        replace h := b2_eq h; obtain ⟨r_18, s_19, hc_20, h⟩ := h
        refine R_call (rest := []) [.int r_18] (dv_isUnder ⟨hx, hb, hml, hown, ht⟩ hK hZ hA hB q_17 tw582 hc_20 (Nat.le_of_ble_eq_true rfl) (Nat.le_of_ble_eq_true rfl) hl.1 rfl (Nat.le_of_ble_eq_true rfl) dX4_readValue_48 (Nat.zero_le _) (Nat.zero_le _)) hB hA rfl (fun H locs hB => ?_)
        refine lv_if_ne (tgt := 63) hx hb dX4_readValue_51 (by decide) (fun c_21 => ?_) (fun c_21 => ?_)
        · replace h := itn h c_21
          refine lv_aload_n hx hb dX4_readValue_63 rfl (lv_at hl 2 rfl) ?_
          refine lv_iconst (v := 0) hx hb dX4_readValue_64 (by decide) ?_
          refine lv_bipush (v := 9) hx hb dX4_readValue_65 (by decide) ?_
          replace h := b2_eq h; obtain ⟨r_22, s_23, hc_24, h⟩ := h
          refine R_call (rest := []) [.int r_22] (R_runV (n := 2) (As := [.int (0 : Int32), .int (9 : Int32)]) ⟨hx, hb, hml, hown, ht⟩ (fun _ h9 => h9) hK hZ hA hB (c_X4_readNumber l g P s_19 (0 : Int32) (9 : Int32) H.size hc_24) (R_recv hK hB (by decide) (cell_7 rfl) rfl) tw565 tw562 tw564 pw9 tw4 ⟨by decide, by decide, by decide⟩ rfl rfl ⟨Nat.le_of_ble_eq_true rfl, Nat.le_of_ble_eq_true rfl⟩ rfl hl.1 rfl (Nat.le_of_ble_eq_true rfl) dX4_readValue_67 ⟨Nat.zero_le _, Nat.zero_le _⟩) hB hA rfl (fun H locs hB => ?_)
          refine lv_if_ne (tgt := 75) hx hb dX4_readValue_70 (by decide) (fun c_25 => ?_) (fun c_25 => ?_)
          · replace h := itn h c_25
            refine lv_aload_n hx hb dX4_readValue_75 rfl (lv_at hl 2 rfl) ?_
            refine R_get (v := .int (hI s_23 31 3)) hx hb ht ui_X4 hown hK hB (by decide) (cell_7 rfl) rfl 3 (by decide) (ht _ tw113) (fun _ h9 => h9) rfl dX4_readValue_76 ?_
            refine lv_istore_n (lv' := [(3, .int (hI s_23 31 3)), (2, .ref (P y_12)), (1, .int (hI s_6 31 3)), (0, .ref (gL g 31))]) hx hb dX4_readValue_79 rfl hl (by decide) rfl (fun ls hl => ?_)
            refine lv_aload_n hx hb dX4_readValue_80 rfl (lv_at hl 3 rfl) ?_
            refine lv_iconst (v := 0) hx hb dX4_readValue_81 (by decide) ?_
            refine lv_sipush (v := 999) hx hb dX4_readValue_82 (by decide) ?_
            replace h := b2_eq h; obtain ⟨r_26, s_27, hc_28, h⟩ := h
            refine R_call (rest := []) [.int r_26] (R_runV (n := 2) (As := [.int (0 : Int32), .int (999 : Int32)]) ⟨hx, hb, hml, hown, ht⟩ (fun _ h9 => h9) hK hZ hA hB (c_X4_readNumber l g P s_23 (0 : Int32) (999 : Int32) H.size hc_28) (R_recv hK hB (by decide) (cell_7 rfl) rfl) tw565 tw562 tw564 pw9 tw4 ⟨by decide, by decide, by decide⟩ rfl rfl ⟨Nat.le_of_ble_eq_true rfl, Nat.le_of_ble_eq_true rfl⟩ rfl hl.1 rfl (Nat.le_of_ble_eq_true rfl) dX4_readValue_85 ⟨Nat.zero_le _, Nat.zero_le _⟩) hB hA rfl (fun H locs hB => ?_)
            refine lv_if_ne (tgt := 93) hx hb dX4_readValue_88 (by decide) (fun c_29 => ?_) (fun c_29 => ?_)
            · replace h := itn h c_29
              refine lv_aload_n hx hb dX4_readValue_93 rfl (lv_at hl 3 rfl) ?_
              refine R_get (v := .ref (gL g 2)) hx hb ht ui_X4 hown hK hB (by decide) (cell_7 rfl) rfl 0 (by decide) (ht _ tw109) (fun _ h9 => h9) rfl dX4_readValue_94 ?_
              refine lv_iload_n hx hb dX4_readValue_97 rfl (lv_at hl 2 rfl) ?_
              refine lv_iload_n hx hb dX4_readValue_98 rfl (lv_at hl 0 rfl) ?_
              refine lv_aload_n hx hb dX4_readValue_99 rfl (lv_at hl 3 rfl) ?_
              refine R_get (v := .int (hI s_27 31 3)) hx hb ht ui_X4 hown hK hB (by decide) (cell_7 rfl) rfl 3 (by decide) (ht _ tw113) (fun _ h9 => h9) rfl dX4_readValue_100 ?_
              replace h := b2_eq h; obtain ⟨r_30, s_31, hc_32, h⟩ := h
              refine R_call (rest := []) [] (R_runV (n := 3) (As := [.int (hI s_6 31 3), .int (hI s_23 31 3), .int (hI s_27 31 3)]) ⟨hx, hb, hml, hown, ht⟩ (fun _ h9 => h9) hK hZ hA hB (c_X7_tellValue l g P s_27 2 (hI s_6 31 3) (hI s_23 31 3) (hI s_27 31 3) rfl H.size hc_32) (R_recv hK hB (by decide) (cell_1 rfl) rfl) tw448 tw583 tw446 tw447 tw2 ⟨by decide, by decide, by decide⟩ rfl rfl ⟨Nat.le_of_ble_eq_true rfl, Nat.le_of_ble_eq_true rfl⟩ rfl hl.1 rfl (Nat.le_of_ble_eq_true rfl) dX4_readValue_103 ⟨Nat.zero_le _, Nat.zero_le _⟩) hB hA rfl (fun H locs hB => ?_)
              refine lv_iconst (v := 1) hx hb dX4_readValue_106 (by decide) ?_
              obtain ⟨rfl, rfl⟩ := Prod.mk.inj (Option.some.inj h)
              exact W.zret hx hb hr rfl (R_end hB) hB.2.2.2.2 dX4_readValue_107
            · replace h := itp h c_29
              refine lv_iconst (v := 0) hx hb dX4_readValue_91 (by decide) ?_
              obtain ⟨rfl, rfl⟩ := Prod.mk.inj (Option.some.inj h)
              exact W.zret hx hb hr rfl (R_end hB) hB.2.2.2.2 dX4_readValue_92
          · replace h := itp h c_25
            refine lv_iconst (v := 0) hx hb dX4_readValue_73 (by decide) ?_
            obtain ⟨rfl, rfl⟩ := Prod.mk.inj (Option.some.inj h)
            exact W.zret hx hb hr rfl (R_end hB) hB.2.2.2.2 dX4_readValue_74
        · replace h := itp h c_21
          exact hb_54 s_19 H locs ls h hB (lv_sub hl [2] rfl)
    · replace h := itp h c_8
      refine lv_iconst (v := 0) hx hb dX4_readValue_26 (by decide) ?_
      obtain ⟨rfl, rfl⟩ := Prod.mk.inj (Option.some.inj h)
      exact W.zret hx hb hr rfl (R_end hB) hB.2.2.2.2 dX4_readValue_27
def f_X4_readWrite (σ : Hp) : Option (Int32 × Hp) := b2 (f_X4_readWord 3 σ) (fun r_1 s_2 => if r_1 = 0 then some ((0 : Int32), s_2) else b2 (f_X7_slateFull 2 s_2) (fun r_5 s_6 => if r_5 = 0 then b2 (f_X4_readNumber (0 : Int32) (999999 : Int32) s_6) (fun r_9 s_10 => if r_9 = 0 then some ((0 : Int32), s_10) else b2 (f_X7_put 2 ((hI s_10 31 3).toInt64) s_10) (fun r_13 s_14 => some ((1 : Int32), s_14))) else b2 (f_X4_failAt (hI σ 31 2) s_6) (fun r_16 s_17 => ck (isB r_16 = true) (some (r_16, s_17)))))
set_option maxHeartbeats 4000000 in
set_option maxRecDepth 100000 in
theorem c_X4_readWrite (l : Launch) (g : tG) (P : Nat → Nat) (σ : Hp) (sz : Nat) {r : Int32} {τ : Hp} (h : f_X4_readWrite σ = some (r, τ)) : Met l yX4_readWrite (Cond.code yX4_readWrite cX4_readWrite 2 (some .boolean) :: tblG) ({ frames := 5, cells := 0, slots := 0, locals := 107 }) (va_Pc [.ref (gL g 31)] (tPre g P σ sz)) (tQ (some (.int r)) (tPost g P τ (va_A (wC g P σ) sz)) (va_A (wC g P σ) sz)) 0 0 (va_A (wC g P σ) sz) := by
  refine T_start (B := fun A => tPost g P τ A) (by decide) (Nat.le_of_ble_eq_true rfl) ?_
  intro p e s m args below meth c ls0 A hx hb hml hr hown hlocks ht hnm hK hZ hA hB0 hl0
  suffices hmain : ∀ (H : Heap) (locs : List Loc) (ls : Array Slot), tB g P σ A s.heap H locs → lv_has ls 2 [(0, .ref (gL g 31))] → WQ p l e { frames := 5, cells := 0, slots := 0, locals := 107 } s m args below meth c g P A (some (.int r)) τ H locs (F0 m 0 ls []) from hmain _ _ ls0 hB0 hl0
  intro H locs ls hB hl
  unfold f_X4_readWrite at h
  refine lv_aload_n hx hb dX4_readWrite_0 rfl (lv_at hl 0 rfl) ?_
  refine R_get (v := .int (hI σ 31 2)) hx hb ht ui_X4 hown hK hB (by decide) (cell_7 rfl) rfl 2 (by decide) (ht _ tw112) (fun _ h9 => h9) rfl dX4_readWrite_1 ?_
  refine lv_istore_n (lv' := [(1, .int (hI σ 31 2)), (0, .ref (gL g 31))]) hx hb dX4_readWrite_4 rfl hl (by decide) rfl (fun ls hl => ?_)
  refine lv_aload_n hx hb dX4_readWrite_5 rfl (lv_at hl 1 rfl) ?_
  refine va_ldcS hx hb hown (hK.2.2.1 3 (by decide)) dX4_readWrite_6 ?_
  replace h := b2_eq h; obtain ⟨r_1, s_2, hc_3, h⟩ := h
  refine R_call (rest := []) [.int r_1] (R_runV (n := 1) (As := [.ref (gK g 3)]) ⟨hx, hb, hml, hown, ht⟩ (fun _ h9 => h9) hK hZ hA hB (c_X4_readWord l g P σ 3 (by decide) H.size hc_3) (R_recv hK hB (by decide) (cell_7 rfl) rfl) tw505 tw502 tw504 pw6 tw4 ⟨by decide, by decide, by decide⟩ rfl rfl ⟨Nat.le_of_ble_eq_true rfl, Nat.le_of_ble_eq_true rfl⟩ rfl hl.1 rfl (Nat.le_of_ble_eq_true rfl) dX4_readWrite_8 ⟨Nat.zero_le _, Nat.zero_le _⟩) hB hA rfl (fun H locs hB => ?_)
  refine lv_if_ne (tgt := 16) hx hb dX4_readWrite_11 (by decide) (fun c_4 => ?_) (fun c_4 => ?_)
  · replace h := itn h c_4
    refine lv_aload_n hx hb dX4_readWrite_16 rfl (lv_at hl 1 rfl) ?_
    refine R_get (v := .ref (gL g 2)) hx hb ht ui_X4 hown hK hB (by decide) (cell_7 rfl) rfl 0 (by decide) (ht _ tw109) (fun _ h9 => h9) rfl dX4_readWrite_17 ?_
    replace h := b2_eq h; obtain ⟨r_5, s_6, hc_7, h⟩ := h
    refine R_call (rest := []) [.int r_5] (R_runV (n := 0) (As := []) ⟨hx, hb, hml, hown, ht⟩ (fun _ h9 => h9) hK hZ hA hB (c_X7_slateFull l g P s_2 2 rfl H.size hc_7) (R_recv hK hB (by decide) (cell_1 rfl) rfl) tw592 tw589 tw590 tw591 tw2 ⟨by decide, by decide, by decide⟩ rfl rfl ⟨Nat.le_of_ble_eq_true rfl, Nat.le_of_ble_eq_true rfl⟩ rfl hl.1 rfl (Nat.le_of_ble_eq_true rfl) dX4_readWrite_20 ⟨Nat.zero_le _, Nat.zero_le _⟩) hB hA rfl (fun H locs hB => ?_)
    refine lv_if_eq (tgt := 32) hx hb dX4_readWrite_23 (by decide) (fun c_8 => ?_) (fun c_8 => ?_)
    · replace h := itp h c_8
      refine lv_aload_n hx hb dX4_readWrite_32 rfl (lv_at hl 1 rfl) ?_
      refine lv_iconst (v := 0) hx hb dX4_readWrite_33 (by decide) ?_
      refine lv_ldc (v := 999999) hx hb hown (ht _ tw593) dX4_readWrite_34 ?_
      replace h := b2_eq h; obtain ⟨r_9, s_10, hc_11, h⟩ := h
      refine R_call (rest := []) [.int r_9] (R_runV (n := 2) (As := [.int (0 : Int32), .int (999999 : Int32)]) ⟨hx, hb, hml, hown, ht⟩ (fun _ h9 => h9) hK hZ hA hB (c_X4_readNumber l g P s_6 (0 : Int32) (999999 : Int32) H.size hc_11) (R_recv hK hB (by decide) (cell_7 rfl) rfl) tw565 tw562 tw564 pw9 tw4 ⟨by decide, by decide, by decide⟩ rfl rfl ⟨Nat.le_of_ble_eq_true rfl, Nat.le_of_ble_eq_true rfl⟩ rfl hl.1 rfl (Nat.le_of_ble_eq_true rfl) dX4_readWrite_36 ⟨Nat.zero_le _, Nat.zero_le _⟩) hB hA rfl (fun H locs hB => ?_)
      refine lv_if_ne (tgt := 44) hx hb dX4_readWrite_39 (by decide) (fun c_12 => ?_) (fun c_12 => ?_)
      · replace h := itn h c_12
        refine lv_aload_n hx hb dX4_readWrite_44 rfl (lv_at hl 1 rfl) ?_
        refine R_get (v := .ref (gL g 2)) hx hb ht ui_X4 hown hK hB (by decide) (cell_7 rfl) rfl 0 (by decide) (ht _ tw109) (fun _ h9 => h9) rfl dX4_readWrite_45 ?_
        refine lv_aload_n hx hb dX4_readWrite_48 rfl (lv_at hl 1 rfl) ?_
        refine R_get (v := .int (hI s_10 31 3)) hx hb ht ui_X4 hown hK hB (by decide) (cell_7 rfl) rfl 3 (by decide) (ht _ tw113) (fun _ h9 => h9) rfl dX4_readWrite_49 ?_
        refine lv_i2l (v := (hI s_10 31 3).toInt64) hx hb dX4_readWrite_52 rfl ?_
        replace h := b2_eq h; obtain ⟨r_13, s_14, hc_15, h⟩ := h
        refine R_call (rest := []) [] (R_runV (n := 1) (As := [.long ((hI s_10 31 3).toInt64)]) ⟨hx, hb, hml, hown, ht⟩ (fun _ h9 => h9) hK hZ hA hB (c_X7_put l g P s_10 2 ((hI s_10 31 3).toInt64) rfl H.size hc_15) (R_recv hK hB (by decide) (cell_1 rfl) rfl) tw597 tw594 tw595 tw596 tw2 ⟨by decide, by decide, by decide⟩ rfl rfl ⟨Nat.le_of_ble_eq_true rfl, Nat.le_of_ble_eq_true rfl⟩ rfl hl.1 rfl (Nat.le_of_ble_eq_true rfl) dX4_readWrite_53 ⟨Nat.zero_le _, Nat.zero_le _⟩) hB hA rfl (fun H locs hB => ?_)
        refine lv_iconst (v := 1) hx hb dX4_readWrite_56 (by decide) ?_
        obtain ⟨rfl, rfl⟩ := Prod.mk.inj (Option.some.inj h)
        exact W.zret hx hb hr rfl (R_end hB) hB.2.2.2.2 dX4_readWrite_57
      · replace h := itp h c_12
        refine lv_iconst (v := 0) hx hb dX4_readWrite_42 (by decide) ?_
        obtain ⟨rfl, rfl⟩ := Prod.mk.inj (Option.some.inj h)
        exact W.zret hx hb hr rfl (R_end hB) hB.2.2.2.2 dX4_readWrite_43
    · replace h := itn h c_8
      refine lv_aload_n hx hb dX4_readWrite_26 rfl (lv_at hl 1 rfl) ?_
      refine lv_iload_n hx hb dX4_readWrite_27 rfl (lv_at hl 0 rfl) ?_
      replace h := b2_eq h; obtain ⟨r_16, s_17, hc_18, h⟩ := h
      refine R_call (rest := []) [.int r_16] (R_runV (n := 1) (As := [.int (hI σ 31 2)]) ⟨hx, hb, hml, hown, ht⟩ (fun _ h9 => h9) hK hZ hA hB (c_X4_failAt l g P s_6 (hI σ 31 2) H.size hc_18) (R_recv hK hB (by decide) (cell_7 rfl) rfl) tw561 tw558 tw560 pw8 tw4 ⟨by decide, by decide, by decide⟩ rfl rfl ⟨Nat.le_of_ble_eq_true rfl, Nat.le_of_ble_eq_true rfl⟩ rfl hl.1 rfl (Nat.le_of_ble_eq_true rfl) dX4_readWrite_28 ⟨Nat.zero_le _, Nat.zero_le _⟩) hB hA rfl (fun H locs hB => ?_)
      replace h := ck_eq h; obtain ⟨q_19, h⟩ := h
      obtain ⟨rfl, rfl⟩ := Prod.mk.inj (Option.some.inj h)
      exact W.zret hx hb hr (isB_eq q_19) (R_end hB) hB.2.2.2.2 dX4_readWrite_31
  · replace h := itp h c_4
    refine lv_iconst (v := 0) hx hb dX4_readWrite_14 (by decide) ?_
    obtain ⟨rfl, rfl⟩ := Prod.mk.inj (Option.some.inj h)
    exact W.zret hx hb hr rfl (R_end hB) hB.2.2.2.2 dX4_readWrite_15
def f_X4_readGo_b36 (x1 : Int32) (σ1 : Hp) : Option (Int32 × Hp) := b2 (f_X4_failAt x1 σ1) (fun r_6 s_7 => ck (isB r_6 = true) (some (r_6, s_7)))
def f_X4_readGo_b98 (x1 : Int32) (xt0 : Int64) (σ1 : Hp) : Option (Int32 × Hp) := if (lg_cmp xt0 (-1 : Int64)) = 0 then b2 (f_X4_failAt x1 σ1) (fun r_26 s_27 => ck (isB r_26 = true) (some (r_26, s_27))) else b2 (f_X7_put 2 xt0 σ1) (fun r_23 s_24 => some ((1 : Int32), s_24))
def f_X4_readGo (σ : Hp) : Option (Int32 × Hp) := b2 (f_X4_readWord 4 σ) (fun r_1 s_2 => if r_1 = 0 then some ((0 : Int32), s_2) else if (hI s_2 2 3) = 0 then f_X4_readGo_b36 (hI σ 31 2) s_2 else b2 (f_X7_slateFull 2 s_2) (fun r_10 s_11 => if r_10 = 0 then b2 (f_X4_readNumber (0 : Int32) ((hI s_11 2 2) - (1 : Int32)) s_11) (fun r_14 s_15 => if r_14 = 0 then some ((0 : Int32), s_15) else b2 (f_X7_lawAt 2 (hI s_15 31 3) s_15) (fun r_18 s_19 => cs r_18 (f_X4_readGo_b98 (hI σ 31 2) (-1 : Int64) s_19) (fun y_21 => b2 (f_X7_lastNumber 2 s_19) (fun r_30 s_31 => ck (isLaw s_31 y_21 = true) (b2 (v_onward y_21 r_30 2 s_31) (fun r_34 s_35 => f_X4_readGo_b98 (hI σ 31 2) r_34 s_35)))))) else f_X4_readGo_b36 (hI σ 31 2) s_11))
set_option maxHeartbeats 4000000 in
set_option maxRecDepth 100000 in
theorem c_X4_readGo (l : Launch) (g : tG) (P : Nat → Nat) (σ : Hp) (sz : Nat) {r : Int32} {τ : Hp} (h : f_X4_readGo σ = some (r, τ)) : Met l yX4_readGo (Cond.code yX4_readGo cX4_readGo 5 (some .boolean) :: tblG) ({ frames := 5, cells := 0, slots := 0, locals := 107 }) (va_Pc [.ref (gL g 31)] (tPre g P σ sz)) (tQ (some (.int r)) (tPost g P τ (va_A (wC g P σ) sz)) (va_A (wC g P σ) sz)) 0 0 (va_A (wC g P σ) sz) := by
  refine T_start (B := fun A => tPost g P τ A) (by decide) (Nat.le_of_ble_eq_true rfl) ?_
  intro p e s m args below meth c ls0 A hx hb hml hr hown hlocks ht hnm hK hZ hA hB0 hl0
  have hb_36 : ∀ (x1 : Int32) (σ1 : Hp) (H : Heap) (locs : List Loc) (ls : Array Slot), f_X4_readGo_b36 x1 σ1 = some (r, τ) → tB g P σ1 A s.heap H locs → lv_has ls 5 [(0, .ref (gL g 31)), (1, .int x1)] → WQ p l e { frames := 5, cells := 0, slots := 0, locals := 107 } s m args below meth c g P A (some (.int r)) τ H locs (F0 m 36 ls []) := by
    intro x1 σ1 H locs ls h hB hl
    unfold f_X4_readGo_b36 at h
    refine lv_aload_n hx hb dX4_readGo_36 rfl (lv_at hl 0 rfl) ?_
    refine lv_iload_n hx hb dX4_readGo_37 rfl (lv_at hl 1 rfl) ?_
    replace h := b2_eq h; obtain ⟨r_6, s_7, hc_8, h⟩ := h
    refine R_call (rest := []) [.int r_6] (R_runV (n := 1) (As := [.int x1]) ⟨hx, hb, hml, hown, ht⟩ (fun _ h9 => h9) hK hZ hA hB (c_X4_failAt l g P σ1 x1 H.size hc_8) (R_recv hK hB (by decide) (cell_7 rfl) rfl) tw561 tw558 tw560 pw8 tw4 ⟨by decide, by decide, by decide⟩ rfl rfl ⟨Nat.le_of_ble_eq_true rfl, Nat.le_of_ble_eq_true rfl⟩ rfl hl.1 rfl (Nat.le_of_ble_eq_true rfl) dX4_readGo_38 ⟨Nat.zero_le _, Nat.zero_le _⟩) hB hA rfl (fun H locs hB => ?_)
    replace h := ck_eq h; obtain ⟨q_9, h⟩ := h
    obtain ⟨rfl, rfl⟩ := Prod.mk.inj (Option.some.inj h)
    exact W.zret hx hb hr (isB_eq q_9) (R_end hB) hB.2.2.2.2 dX4_readGo_41
  have hb_98 : ∀ (x1 : Int32) (xt0 : Int64) (σ1 : Hp) (H : Heap) (locs : List Loc) (ls : Array Slot), f_X4_readGo_b98 x1 xt0 σ1 = some (r, τ) → tB g P σ1 A s.heap H locs → lv_has ls 5 [(0, .ref (gL g 31)), (1, .int x1)] → WQ p l e { frames := 5, cells := 0, slots := 0, locals := 107 } s m args below meth c g P A (some (.int r)) τ H locs (F0 m 98 ls [.long xt0]) := by
    intro x1 xt0 σ1 H locs ls h hB hl
    unfold f_X4_readGo_b98 at h
    refine lv_lstore_n (lv' := [(3, .long xt0), (0, .ref (gL g 31)), (1, .int x1)]) hx hb dX4_readGo_98 rfl hl (by decide) rfl (fun ls hl => ?_)
    refine lv_lload_n hx hb dX4_readGo_99 rfl (lv_at hl 0 rfl) ?_
    refine lv_ldc2 (v := -1) hx hb hown (ht _ tw603) dX4_readGo_100 ?_
    refine W.lcmp hx hb dX4_readGo_103 ?_
    refine lv_if_ne (tgt := 113) hx hb dX4_readGo_104 (by decide) (fun c_22 => ?_) (fun c_22 => ?_)
    · replace h := itn h c_22
      refine lv_aload_n hx hb dX4_readGo_113 rfl (lv_at hl 1 rfl) ?_
      refine R_get (v := .ref (gL g 2)) hx hb ht ui_X4 hown hK hB (by decide) (cell_7 rfl) rfl 0 (by decide) (ht _ tw109) (fun _ h9 => h9) rfl dX4_readGo_114 ?_
      refine lv_lload_n hx hb dX4_readGo_117 rfl (lv_at hl 0 rfl) ?_
      replace h := b2_eq h; obtain ⟨r_23, s_24, hc_25, h⟩ := h
      refine R_call (rest := []) [] (R_runV (n := 1) (As := [.long xt0]) ⟨hx, hb, hml, hown, ht⟩ (fun _ h9 => h9) hK hZ hA hB (c_X7_put l g P σ1 2 xt0 rfl H.size hc_25) (R_recv hK hB (by decide) (cell_1 rfl) rfl) tw597 tw594 tw595 tw596 tw2 ⟨by decide, by decide, by decide⟩ rfl rfl ⟨Nat.le_of_ble_eq_true rfl, Nat.le_of_ble_eq_true rfl⟩ rfl hl.1 rfl (Nat.le_of_ble_eq_true rfl) dX4_readGo_118 ⟨Nat.zero_le _, Nat.zero_le _⟩) hB hA rfl (fun H locs hB => ?_)
      refine lv_iconst (v := 1) hx hb dX4_readGo_121 (by decide) ?_
      obtain ⟨rfl, rfl⟩ := Prod.mk.inj (Option.some.inj h)
      exact W.zret hx hb hr rfl (R_end hB) hB.2.2.2.2 dX4_readGo_122
    · replace h := itp h c_22
      refine lv_aload_n hx hb dX4_readGo_107 rfl (lv_at hl 1 rfl) ?_
      refine lv_iload_n hx hb dX4_readGo_108 rfl (lv_at hl 2 rfl) ?_
      replace h := b2_eq h; obtain ⟨r_26, s_27, hc_28, h⟩ := h
      refine R_call (rest := []) [.int r_26] (R_runV (n := 1) (As := [.int x1]) ⟨hx, hb, hml, hown, ht⟩ (fun _ h9 => h9) hK hZ hA hB (c_X4_failAt l g P σ1 x1 H.size hc_28) (R_recv hK hB (by decide) (cell_7 rfl) rfl) tw561 tw558 tw560 pw8 tw4 ⟨by decide, by decide, by decide⟩ rfl rfl ⟨Nat.le_of_ble_eq_true rfl, Nat.le_of_ble_eq_true rfl⟩ rfl hl.1 rfl (Nat.le_of_ble_eq_true rfl) dX4_readGo_109 ⟨Nat.zero_le _, Nat.zero_le _⟩) hB hA rfl (fun H locs hB => ?_)
      replace h := ck_eq h; obtain ⟨q_29, h⟩ := h
      obtain ⟨rfl, rfl⟩ := Prod.mk.inj (Option.some.inj h)
      exact W.zret hx hb hr (isB_eq q_29) (R_end hB) hB.2.2.2.2 dX4_readGo_112
  suffices hmain : ∀ (H : Heap) (locs : List Loc) (ls : Array Slot), tB g P σ A s.heap H locs → lv_has ls 5 [(0, .ref (gL g 31))] → WQ p l e { frames := 5, cells := 0, slots := 0, locals := 107 } s m args below meth c g P A (some (.int r)) τ H locs (F0 m 0 ls []) from hmain _ _ ls0 hB0 hl0
  intro H locs ls hB hl
  unfold f_X4_readGo at h
  refine lv_aload_n hx hb dX4_readGo_0 rfl (lv_at hl 0 rfl) ?_
  refine R_get (v := .int (hI σ 31 2)) hx hb ht ui_X4 hown hK hB (by decide) (cell_7 rfl) rfl 2 (by decide) (ht _ tw112) (fun _ h9 => h9) rfl dX4_readGo_1 ?_
  refine lv_istore_n (lv' := [(1, .int (hI σ 31 2)), (0, .ref (gL g 31))]) hx hb dX4_readGo_4 rfl hl (by decide) rfl (fun ls hl => ?_)
  refine lv_aload_n hx hb dX4_readGo_5 rfl (lv_at hl 1 rfl) ?_
  refine va_ldcS hx hb hown (hK.2.2.1 4 (by decide)) dX4_readGo_6 ?_
  replace h := b2_eq h; obtain ⟨r_1, s_2, hc_3, h⟩ := h
  refine R_call (rest := []) [.int r_1] (R_runV (n := 1) (As := [.ref (gK g 4)]) ⟨hx, hb, hml, hown, ht⟩ (fun _ h9 => h9) hK hZ hA hB (c_X4_readWord l g P σ 4 (by decide) H.size hc_3) (R_recv hK hB (by decide) (cell_7 rfl) rfl) tw505 tw502 tw504 pw6 tw4 ⟨by decide, by decide, by decide⟩ rfl rfl ⟨Nat.le_of_ble_eq_true rfl, Nat.le_of_ble_eq_true rfl⟩ rfl hl.1 rfl (Nat.le_of_ble_eq_true rfl) dX4_readGo_8 ⟨Nat.zero_le _, Nat.zero_le _⟩) hB hA rfl (fun H locs hB => ?_)
  refine lv_if_ne (tgt := 16) hx hb dX4_readGo_11 (by decide) (fun c_4 => ?_) (fun c_4 => ?_)
  · replace h := itn h c_4
    refine lv_aload_n hx hb dX4_readGo_16 rfl (lv_at hl 1 rfl) ?_
    refine R_get (v := .ref (gL g 2)) hx hb ht ui_X4 hown hK hB (by decide) (cell_7 rfl) rfl 0 (by decide) (ht _ tw109) (fun _ h9 => h9) rfl dX4_readGo_17 ?_
    refine R_get (v := .int (hI s_2 2 3)) hx hb ht ui_X7 hown hK hB (by decide) (cell_1 rfl) rfl 3 (by decide) (ht _ tw53) (fun _ h9 => h9) rfl dX4_readGo_20 ?_
    refine lv_if_eq (tgt := 36) hx hb dX4_readGo_23 (by decide) (fun c_5 => ?_) (fun c_5 => ?_)
    · replace h := itp h c_5
      exact hb_36 (hI σ 31 2) s_2 H locs ls h hB (lv_sub hl [1, 0] rfl)
    · replace h := itn h c_5
      refine lv_aload_n hx hb dX4_readGo_26 rfl (lv_at hl 1 rfl) ?_
      refine R_get (v := .ref (gL g 2)) hx hb ht ui_X4 hown hK hB (by decide) (cell_7 rfl) rfl 0 (by decide) (ht _ tw109) (fun _ h9 => h9) rfl dX4_readGo_27 ?_
      replace h := b2_eq h; obtain ⟨r_10, s_11, hc_12, h⟩ := h
      refine R_call (rest := []) [.int r_10] (R_runV (n := 0) (As := []) ⟨hx, hb, hml, hown, ht⟩ (fun _ h9 => h9) hK hZ hA hB (c_X7_slateFull l g P s_2 2 rfl H.size hc_12) (R_recv hK hB (by decide) (cell_1 rfl) rfl) tw592 tw589 tw590 tw591 tw2 ⟨by decide, by decide, by decide⟩ rfl rfl ⟨Nat.le_of_ble_eq_true rfl, Nat.le_of_ble_eq_true rfl⟩ rfl hl.1 rfl (Nat.le_of_ble_eq_true rfl) dX4_readGo_30 ⟨Nat.zero_le _, Nat.zero_le _⟩) hB hA rfl (fun H locs hB => ?_)
      refine lv_if_eq (tgt := 42) hx hb dX4_readGo_33 (by decide) (fun c_13 => ?_) (fun c_13 => ?_)
      · replace h := itp h c_13
        refine lv_aload_n hx hb dX4_readGo_42 rfl (lv_at hl 1 rfl) ?_
        refine lv_iconst (v := 0) hx hb dX4_readGo_43 (by decide) ?_
        refine lv_aload_n hx hb dX4_readGo_44 rfl (lv_at hl 1 rfl) ?_
        refine R_get (v := .ref (gL g 2)) hx hb ht ui_X4 hown hK hB (by decide) (cell_7 rfl) rfl 0 (by decide) (ht _ tw109) (fun _ h9 => h9) rfl dX4_readGo_45 ?_
        refine R_get (v := .int (hI s_11 2 2)) hx hb ht ui_X7 hown hK hB (by decide) (cell_1 rfl) rfl 2 (by decide) (ht _ tw50) (fun _ h9 => h9) rfl dX4_readGo_48 ?_
        refine lv_iconst (v := 1) hx hb dX4_readGo_51 (by decide) ?_
        refine lv_isub hx hb dX4_readGo_52 ?_
        replace h := b2_eq h; obtain ⟨r_14, s_15, hc_16, h⟩ := h
        refine R_call (rest := []) [.int r_14] (R_runV (n := 2) (As := [.int (0 : Int32), .int ((hI s_11 2 2) - (1 : Int32))]) ⟨hx, hb, hml, hown, ht⟩ (fun _ h9 => h9) hK hZ hA hB (c_X4_readNumber l g P s_11 (0 : Int32) ((hI s_11 2 2) - (1 : Int32)) H.size hc_16) (R_recv hK hB (by decide) (cell_7 rfl) rfl) tw565 tw562 tw564 pw9 tw4 ⟨by decide, by decide, by decide⟩ rfl rfl ⟨Nat.le_of_ble_eq_true rfl, Nat.le_of_ble_eq_true rfl⟩ rfl hl.1 rfl (Nat.le_of_ble_eq_true rfl) dX4_readGo_53 ⟨Nat.zero_le _, Nat.zero_le _⟩) hB hA rfl (fun H locs hB => ?_)
        refine lv_if_ne (tgt := 61) hx hb dX4_readGo_56 (by decide) (fun c_17 => ?_) (fun c_17 => ?_)
        · replace h := itn h c_17
          refine lv_aload_n hx hb dX4_readGo_61 rfl (lv_at hl 1 rfl) ?_
          refine R_get (v := .ref (gL g 2)) hx hb ht ui_X4 hown hK hB (by decide) (cell_7 rfl) rfl 0 (by decide) (ht _ tw109) (fun _ h9 => h9) rfl dX4_readGo_62 ?_
          refine lv_aload_n hx hb dX4_readGo_65 rfl (lv_at hl 1 rfl) ?_
          refine R_get (v := .int (hI s_15 31 3)) hx hb ht ui_X4 hown hK hB (by decide) (cell_7 rfl) rfl 3 (by decide) (ht _ tw113) (fun _ h9 => h9) rfl dX4_readGo_66 ?_
          replace h := b2_eq h; obtain ⟨r_18, s_19, hc_20, h⟩ := h
          refine R_call (rest := []) [va_rf (Option.map P r_18)] (R_runV (n := 1) (As := [.int (hI s_15 31 3)]) ⟨hx, hb, hml, hown, ht⟩ (fun _ h9 => h9) hK hZ hA hB (c_X7_lawAt l g P s_15 2 (hI s_15 31 3) rfl H.size hc_20) (R_recv hK hB (by decide) (cell_1 rfl) rfl) tw228 tw581 tw226 tw227 tw2 ⟨by decide, by decide, by decide⟩ rfl rfl ⟨Nat.le_of_ble_eq_true rfl, Nat.le_of_ble_eq_true rfl⟩ rfl hl.1 rfl (Nat.le_of_ble_eq_true rfl) dX4_readGo_69 ⟨Nat.zero_le _, Nat.zero_le _⟩) hB hA rfl (fun H locs hB => ?_)
          refine lv_astore_nR (lv' := [(2, va_rf (Option.map P r_18)), (1, .int (hI σ 31 2)), (0, .ref (gL g 31))]) hx hb dX4_readGo_72 rfl hl (by decide) rfl (fun ls hl => ?_)
          refine lv_aload_nR hx hb dX4_readGo_73 rfl (lv_at hl 0 rfl) ?_
          rcases r_18 with _ | y_21
          · replace h := cs_n h
            have hl : lv_has ls 5 [(2, .null), (1, .int (hI σ 31 2)), (0, .ref (gL g 31))] := hl
            refine lv_ifnonnullN hx hb dX4_readGo_74 ?_
            refine lv_ldc2 (v := -1) hx hb hown (ht _ tw603) dX4_readGo_77 ?_
            refine lv_goto (tgt := 98) hx hb dX4_readGo_80 (by decide) ?_
            exact hb_98 (hI σ 31 2) (-1 : Int64) s_19 H locs ls h hB (lv_sub hl [2, 1] rfl)
          · replace h := cs_s h
            have hl : lv_has ls 5 [(2, .ref (P y_21)), (1, .int (hI σ 31 2)), (0, .ref (gL g 31))] := hl
            refine lv_ifnonnull (tgt := 83) hx hb dX4_readGo_74 (by decide) ?_
            refine lv_aload_n hx hb dX4_readGo_83 rfl (lv_at hl 0 rfl) ?_
            refine lv_aload_n hx hb dX4_readGo_84 rfl (lv_at hl 2 rfl) ?_
            refine R_get (v := .ref (gL g 2)) hx hb ht ui_X4 hown hK hB (by decide) (cell_7 rfl) rfl 0 (by decide) (ht _ tw109) (fun _ h9 => h9) rfl dX4_readGo_85 ?_
            replace h := b2_eq h; obtain ⟨r_30, s_31, hc_32, h⟩ := h
            refine R_call (rest := [.ref (P y_21)]) [.long r_30, .ref (P y_21)] (R_runV (n := 0) (As := []) ⟨hx, hb, hml, hown, ht⟩ (fun _ h9 => h9) hK hZ hA hB (c_X7_lastNumber l g P s_19 2 rfl H.size hc_32) (R_recv hK hB (by decide) (cell_1 rfl) rfl) tw607 tw604 tw605 tw606 tw2 ⟨by decide, by decide, by decide⟩ rfl rfl ⟨Nat.le_of_ble_eq_true rfl, Nat.le_of_ble_eq_true rfl⟩ rfl hl.1 rfl (Nat.le_of_ble_eq_true rfl) dX4_readGo_88 ⟨Nat.zero_le _, Nat.zero_le _⟩) hB hA rfl (fun H locs hB => ?_)
            refine lv_aload_n hx hb dX4_readGo_91 rfl (lv_at hl 2 rfl) ?_
            refine R_get (v := .ref (gL g 2)) hx hb ht ui_X4 hown hK hB (by decide) (cell_7 rfl) rfl 0 (by decide) (ht _ tw109) (fun _ h9 => h9) rfl dX4_readGo_92 ?_
            replace h := ck_eq h; obtain ⟨q_33, h⟩ := h
            replace h := b2_eq h; obtain ⟨r_34, s_35, hc_36, h⟩ := h
            refine R_call (rest := []) [.long r_34] (dv_onward ⟨hx, hb, hml, hown, ht⟩ hK hZ hA hB q_33 rfl tw609 hc_36 (Nat.le_of_ble_eq_true rfl) (Nat.le_of_ble_eq_true rfl) hl.1 rfl (Nat.le_of_ble_eq_true rfl) dX4_readGo_95 (Nat.zero_le _) (Nat.zero_le _)) hB hA rfl (fun H locs hB => ?_)
            exact hb_98 (hI σ 31 2) r_34 s_35 H locs ls h hB (lv_sub hl [2, 1] rfl)
        · replace h := itp h c_17
          refine lv_iconst (v := 0) hx hb dX4_readGo_59 (by decide) ?_
          obtain ⟨rfl, rfl⟩ := Prod.mk.inj (Option.some.inj h)
          exact W.zret hx hb hr rfl (R_end hB) hB.2.2.2.2 dX4_readGo_60
      · replace h := itn h c_13
        exact hb_36 (hI σ 31 2) s_11 H locs ls h hB (lv_sub hl [1, 0] rfl)
  · replace h := itp h c_4
    refine lv_iconst (v := 0) hx hb dX4_readGo_14 (by decide) ?_
    obtain ⟨rfl, rfl⟩ := Prod.mk.inj (Option.some.inj h)
    exact W.zret hx hb hr rfl (R_end hB) hB.2.2.2.2 dX4_readGo_15
