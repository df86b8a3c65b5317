/-! laws are made: the pool grows, with it the addresses -/
def okRefs (σ : Hp) : Bool := (List.range 3).all fun k => (List.range 6).all fun i => match hR σ (4 + k) i with
  | none => true
  | some j => decide (j < hN σ)
theorem okRefs_eq {σ : Hp} (h : okRefs σ = true) {k i j : Nat} (h1 : 4 ≤ k) (h2 : k ≤ 6) (hi : i < 6) (hj : hR σ k i = some j) : j < hN σ := by
  have a := List.all_eq_true.mp h (k - 4) (List.mem_range.mpr (by omega))
  have b := List.all_eq_true.mp a i (List.mem_range.mpr hi)
  rw [show 4 + (k - 4) = k by omega, hj] at b
  exact of_decide_eq_true b
theorem va_P_mem {D : va_G} {cl : List vw_C} {ws : va_W} {H : Heap} : va_P D cl ws H ↔ ∀ q ∈ ws, va_at D cl q H := by
  constructor
  · intro h q hq
    obtain ⟨k, hk⟩ := List.getElem?_of_mem hq
    exact h k q hk
  · intro h k q hk
    exact h q (List.mem_of_getElem? hk)
theorem va_D_addr {A : Nat → Prop} {w1 w2 : va_W} (h : w2.map Prod.fst = w1.map Prod.fst) (hD : va_D A w1) : va_D A w2 := by
  have key : ∀ (i : Nat) (p : Nat × va_E), w2[i]? = some p → ∃ p1, w1[i]? = some p1 ∧ p1.1 = p.1 := by
    intro i p hp
    have e1 : (w2.map Prod.fst)[i]? = some p.1 := by rw [List.getElem?_map, hp]; rfl
    rw [h, List.getElem?_map] at e1
    cases hw : w1[i]? with
    | none => rw [hw] at e1; cases e1
    | some p1 => rw [hw] at e1; exact ⟨p1, rfl, Option.some.inj e1⟩
  refine ⟨fun i j p q hi hj hpq => ?_, fun k q hk => ?_⟩
  · obtain ⟨p1, a1, a2⟩ := key i p hi
    obtain ⟨q1, b1, b2⟩ := key j q hj
    exact hD.1 i j p1 q1 a1 b1 (by rw [a2, b2]; exact hpq)
  · obtain ⟨q1, b1, b2⟩ := key k q hk
    rw [← b2]
    exact hD.2 k q1 b1
theorem arrV_congr {cA : ClassId} {n : Nat} {f f' : Nat → Value} (h : ∀ j, j < n → f j = f' j) : arrV cA n f = arrV cA n f' := by
  unfold arrV
  have e : (fun j : Fin n => f j.val) = (fun j : Fin n => f' j.val) := funext fun j => h j.val j.isLt
  rw [e]
theorem hI_addH {σ : Hp} {ci k : Nat} (hk : k < 100) : hI (addH σ ci) k = hI σ k := by
  show (if k = 100 + hN σ then _ else hI σ k) = _
  rw [if_neg (by omega)]
theorem cellX_P {g : tG} {P P1 : Nat → Nat} {σ : Hp} {k : Nat} (h : ¬ ky k = 2) : cellX g P1 σ k = cellX g P σ k := by
  simp only [cellX, if_neg h]
theorem ky2 {k : Nat} (h : ky k = 2) : 4 ≤ k ∧ k ≤ 6 ∧ ln k = 6 := by
  have hk := ky_in k (by rw [h]; decide)
  exact (by decide +kernel : ∀ k, k ∈ idL → ky k = 2 → 4 ≤ k ∧ k ≤ 6 ∧ ln k = 6) k hk h
theorem tP_new {g : tG} {P : Nat → Nat} {σ : Hp} {H1 : Heap} {q ci : Nat} (hok : okRefs σ = true) (hP : va_P g.1 vwCl (wC g P σ ++ [(q, .inr (ci, [.int 0, .int 0]))]) H1) : va_P g.1 vwCl (wC g (va_up P (hN σ) q) (addH σ ci)) H1 := by
  rw [va_P_mem] at hP ⊢
  intro x hx
  rcases List.mem_append.mp hx with hx | hx
  · obtain ⟨k, hk, rfl⟩ := List.mem_map.mp hx
    have hk1 := idL_lt k hk
    have hold := hP (gL g k, cellX g P σ k) (List.mem_append_left _ (List.mem_append_left _ (List.mem_map.mpr ⟨k, hk, rfl⟩)))
    have e0 : ∀ P1, cellX g P1 (addH σ ci) k = cellX g P1 σ k := fun P1 => cellX_congr (hI_addH hk1) rfl rfl
    rw [e0]
    by_cases h2 : ky k = 2
    · obtain ⟨a1, a2, a3⟩ := ky2 h2
      rw [cell_2 h2] at hold ⊢
      show H1[gL g k]? = some (vp_cell _ _)
      have hold : H1[gL g k]? = some (vp_cell _ _) := hold
      rw [hold, vp_cell_q, vp_cell_q]
      congr 1
      refine arrV_congr fun j hj => ?_
      rw [a3] at hj
      cases hr : hR σ k j with
      | none => rfl
      | some z =>
        have hz := okRefs_eq hok a1 a2 hj hr
        simp only [Option.map_some, va_up, if_neg (Nat.ne_of_lt hz)]
    · rw [cellX_P (P := P) h2]
      exact hold
  · obtain ⟨j, hj, rfl⟩ := List.mem_map.mp hx
    have hj := List.mem_range.mp hj
    have hj : j < hN σ + 1 := hj
    by_cases hjn : j = hN σ
    · subst hjn
      have hold := hP (q, .inr (ci, [.int 0, .int 0])) (List.mem_append_right _ List.mem_cons_self)
      have e1 : poolX (addH σ ci) (hN σ) = .inr (ci, [.int 0, .int 0]) := by
        simp [poolX, addH, hI, hC, hN, va_up]
      rw [va_up_self, e1]
      exact hold
    · have hjl : j < hN σ := by omega
      have hold := hP (P j, poolX σ j) (List.mem_append_left _ (List.mem_append_right _ (List.mem_map.mpr ⟨j, List.mem_range.mpr hjl, rfl⟩)))
      have e1 : poolX (addH σ ci) j = poolX σ j := by
        have a : hC (addH σ ci) j = hC σ j := va_up_ne _ _ hjn
        have b : hI (addH σ ci) (100 + j) = hI σ (100 + j) := by
          show (if 100 + j = 100 + hN σ then _ else hI σ (100 + j)) = _
          rw [if_neg (by omega)]
        unfold poolX
        rw [a, b]
      rw [va_up_ne _ _ hjn, e1]
      exact hold
theorem tD_new {g : tG} {P : Nat → Nat} {σ : Hp} {A : Nat → Prop} {q ci : Nat} {e : va_E} (hD : va_D A (wC g P σ ++ [(q, e)])) : va_D A (wC g (va_up P (hN σ) q) (addH σ ci)) := by
  refine va_D_addr ?_ hD
  unfold wC
  simp only [List.map_append, List.map_map, List.map_cons, List.map_nil]
  rw [show hN (addH σ ci) = hN σ + 1 from rfl, List.range_succ, List.map_append, List.map_cons, List.map_nil, ← List.append_assoc]
  congr 1
  · congr 1
    apply List.map_congr_left
    intro j hj
    have hj := List.mem_range.mp hj
    show va_up P (hN σ) q j = P j
    exact va_up_ne _ _ (Nat.ne_of_lt hj)
  · show [va_up P (hN σ) q (hN σ)] = [q]
    rw [va_up_self]
theorem wC_setP {g : tG} {P : Nat → Nat} {σ : Hp} {A : Nat → Prop} {j q0 : Nat} {e0 e : va_E} {f : Nat → Int32} (hj : j < hN σ) (hD : va_D A (wC g P σ)) (hq : (wC g P σ)[q0]? = some (P j, e0)) (he : poolX (rowI σ (100 + j) f) j = e) : (wC g P σ).set q0 (P j, e) = wC g P (rowI σ (100 + j) f) := by
  have hlen : (idL.map (fun k => (gL g k, cellX g P σ k))).length = idL.length := List.length_map _
  have hlen' : (idL.map (fun k => (gL g k, cellX g P (rowI σ (100 + j) f) k))).length = idL.length := List.length_map _
  have hpos : (wC g P σ)[idL.length + j]? = some (P j, poolX σ j) := by
    unfold wC
    rw [List.getElem?_append_right (by rw [hlen]; omega), hlen, List.getElem?_map, show idL.length + j - idL.length = j by omega, List.getElem?_range hj]
    rfl
  have h00 : q0 = idL.length + j := hD.1 q0 _ _ _ hq hpos rfl
  subst h00
  apply List.ext_getElem?
  intro i
  by_cases hi : i = idL.length + j
  · subst hi
    rw [List.getElem?_set_self (List.getElem?_eq_some_iff.mp hq).1]
    unfold wC
    rw [List.getElem?_append_right (by rw [hlen']; omega), hlen', List.getElem?_map, show idL.length + j - idL.length = j by omega, hN_rowI, List.getElem?_range hj]
    simp only [Option.map_some, he]
  · rw [List.getElem?_set_ne (Ne.symm hi)]
    unfold wC
    by_cases hil : i < idL.length
    · rw [List.getElem?_append_left (by rw [hlen]; exact hil), List.getElem?_append_left (by rw [hlen']; exact hil), List.getElem?_map, List.getElem?_map]
      cases hk : idL[i]? with
      | none => rfl
      | some k =>
        have hk1 := idL_lt k (List.mem_of_getElem? hk)
        have e1 : cellX g P (rowI σ (100 + j) f) k = cellX g P σ k := cellX_congr (by rw [hI_rowI, if_neg (by omega)]) rfl rfl
        simp only [Option.map_some, e1]
    · rw [List.getElem?_append_right (by rw [hlen]; omega), List.getElem?_append_right (by rw [hlen']; omega), hlen, hlen', hN_rowI, List.getElem?_map, List.getElem?_map]
      cases hk : (List.range (hN σ))[i - idL.length]? with
      | none => rfl
      | some k =>
        have hk2 : k ≠ j := by
          intro e
          subst e
          obtain ⟨hl, hv⟩ := List.getElem?_eq_some_iff.mp hk
          rw [List.getElem_range] at hv
          omega
        have e1 : poolX (rowI σ (100 + j) f) k = poolX σ k := by
          simp only [poolX, hI_rowI, hC_rowI, if_neg (show ¬ 100 + k = 100 + j by omega)]
        simp only [Option.map_some, e1]
section TR5
variable {p : Program} {l : Launch} {e : Env} {R : Room} {s : State} {m : MethodId} {args : Array Value} {below : List Frame} {meth : Method} {c : Code} {H : Heap} {locs : List Loc} {cells slots : Nat} {Q : State → Prop}
variable {cc : ByteArray} {pc : Nat} {ls : Array Slot} {rest : List Value} {g : tG} {P : Nat → Nat} {σ : Hp} {A : Nat → Prop} {H0 : Heap}
theorem R_newP (hx : p.tables.exec = Jvm.exec) (hb : c.code = cc) {own C : String} {T : u_T} {ci index : Nat} (ht : ∀ w ∈ tblG, w.before args s = true) (hin : ∀ w ∈ u_ws C T 2, w ∈ tblG) (ty : Nat → FieldType) (hty : ∀ k, k < 2 → parseFieldDescriptor (T k).2.2.1 = some (ty k)) (hown : s.vm.findClass own = some m.cls) (hcl : (Cond.classLink own index C).before args s = true) (hinst : (Cond.instantiable C 2).before args s = true) (hini : (Cond.initialized C).before args s = true)
    (hK : tK g s) (hB : tB g P σ A H0 H locs) (hA : ∀ q, H0.size ≤ q → A q) (hok : okRefs σ = true) (hc : vwCl[ci]? = some (C, T, 2)) (hfs : ∀ j, j < 2 → defaultValue (ty j) = vp_V [.int 0, .int 0] j) (hcells : cells + 1 ≤ R.cells) (hslots : slots + 2 ≤ R.slots) (hdg : decode cc pc = .ok (.new index, 3))
    (kk : ∀ (P : Nat → Nat) (H1 : Heap), tB g P (addH σ ci) A H0 H1 locs → W p l e R s m args below meth c H1 locs (cells + 1) (slots + 2) Q (F0 m (pc + 3) ls (.ref (P (hN σ)) :: rest))) : W p l e R s m args below meth c H locs cells slots Q (F0 m pc ls rest) := by
  refine va_new hx hb ht hin ty hty hown hcl hinst hini hK.1 hB.1 hB.2.1 hB.2.2 hA hc hfs hcells hslots hdg (fun q H1 hP hD hS => ?_)
  have := kk (va_up P (hN σ) q) H1 ⟨tP_new hok hP, tD_new hD, hS⟩
  rw [va_up_self] at this
  exact this
theorem R_putFP0 (hx : p.tables.exec = Jvm.exec) (hb : c.code = cc) {index j : Nat} {v : Int32} (ht : ∀ w ∈ tblG, w.before args s = true) (hown : s.vm.findClass RX2 = some m.cls) (hK : tK g s) (hB : tB g P σ A H0 H locs) (hj : isLaw σ j = true) (hlink : (Cond.fieldLink RX2 index "TurnedAbout$Law" "place" "I").before args s = true) (hin2 : meth.name = "<init>") (hdg : decode cc pc = .ok (.putfield index, 3))
    (kk : ∀ (H1 : Heap) (locs1 : List Loc), tB g P (sI σ (100 + j) 0 v) A H0 H1 locs1 → W p l e R s m args below meth c H1 locs1 cells slots Q (F0 m (pc + 3) ls rest)) : W p l e R s m args below meth c H locs cells slots Q (F0 m pc ls (.int v :: .ref (P j) :: rest)) := by
  obtain ⟨hlt, hc⟩ := isLaw_eq hj
  obtain ⟨q0, hq⟩ := wC_getP (g := g) (P := P) (σ := σ) hlt
  have hset : poolX (rowI σ (100 + j) (va_up (hI σ (100 + j)) 0 v)) j = .inr (hC σ j, [.int v, .int (hI σ (100 + j) 1)]) := by simp [poolX, hI_rowI, hC_rowI, va_up]
  have fin : ∀ (H1 : Heap) (locs1 : List Loc), va_P g.1 vwCl ((wC g P σ).set q0 (P j, .inr (hC σ j, [.int v, .int (hI σ (100 + j) 1)]))) H1 → va_D A ((wC g P σ).set q0 (P j, .inr (hC σ j, [.int v, .int (hI σ (100 + j) 1)]))) → va_S A H0 H1 locs1 → W p l e R s m args below meth c H1 locs1 cells slots Q (F0 m (pc + 3) ls rest) := by
    intro H1 locs1 hP hD hS
    rw [wC_setP hlt hB.2.1 hq hset] at hP hD
    exact kk H1 locs1 ⟨hP, hD, hS⟩
  unfold poolX at hq
  rcases hc with h | h | h | h | h | h | h <;> rw [h] at hq fin
  · exact va_putF hx hb (T := TX0) ht ui_X0 tyX0 tyX0_ok nmX0 hown hK.1 hB.1 hB.2.1 hB.2.2 q0 hq rfl 0 (by decide) hlink (fun _ h9 => h9) rfl hin2 rfl (by decide +kernel) (ty := .int) rfl rfl (Nat.le_of_ble_eq_true rfl) hdg fin
  · exact va_putF hx hb (T := TX2) ht ui_X2 tyX2 tyX2_ok nmX2 hown hK.1 hB.1 hB.2.1 hB.2.2 q0 hq rfl 0 (by decide) hlink (fun _ h9 => h9) rfl hin2 rfl (by decide +kernel) (ty := .int) rfl rfl (Nat.le_of_ble_eq_true rfl) hdg fin
  · exact va_putF hx hb (T := TX3) ht ui_X3 tyX3 tyX3_ok nmX3 hown hK.1 hB.1 hB.2.1 hB.2.2 q0 hq rfl 0 (by decide) hlink (fun _ h9 => h9) rfl hin2 rfl (by decide +kernel) (ty := .int) rfl rfl (Nat.le_of_ble_eq_true rfl) hdg fin
  · exact va_putF hx hb (T := TX6) ht ui_X6 tyX6 tyX6_ok nmX6 hown hK.1 hB.1 hB.2.1 hB.2.2 q0 hq rfl 0 (by decide) hlink (fun _ h9 => h9) rfl hin2 rfl (by decide +kernel) (ty := .int) rfl rfl (Nat.le_of_ble_eq_true rfl) hdg fin
  · exact va_putF hx hb (T := TX8) ht ui_X8 tyX8 tyX8_ok nmX8 hown hK.1 hB.1 hB.2.1 hB.2.2 q0 hq rfl 0 (by decide) hlink (fun _ h9 => h9) rfl hin2 rfl (by decide +kernel) (ty := .int) rfl rfl (Nat.le_of_ble_eq_true rfl) hdg fin
  · exact va_putF hx hb (T := TX9) ht ui_X9 tyX9 tyX9_ok nmX9 hown hK.1 hB.1 hB.2.1 hB.2.2 q0 hq rfl 0 (by decide) hlink (fun _ h9 => h9) rfl hin2 rfl (by decide +kernel) (ty := .int) rfl rfl (Nat.le_of_ble_eq_true rfl) hdg fin
  · exact va_putF hx hb (T := TX10) ht ui_X10 tyX10 tyX10_ok nmX10 hown hK.1 hB.1 hB.2.1 hB.2.2 q0 hq rfl 0 (by decide) hlink (fun _ h9 => h9) rfl hin2 rfl (by decide +kernel) (ty := .int) rfl rfl (Nat.le_of_ble_eq_true rfl) hdg fin
theorem R_putFP1 (hx : p.tables.exec = Jvm.exec) (hb : c.code = cc) {index j : Nat} {v : Int32} (ht : ∀ w ∈ tblG, w.before args s = true) (hown : s.vm.findClass RX2 = some m.cls) (hK : tK g s) (hB : tB g P σ A H0 H locs) (hj : isLaw σ j = true) (hlink : (Cond.fieldLink RX2 index "TurnedAbout$Law" "a" "I").before args s = true) (hin2 : meth.name = "<init>") (hdg : decode cc pc = .ok (.putfield index, 3))
    (kk : ∀ (H1 : Heap) (locs1 : List Loc), tB g P (sI σ (100 + j) 1 v) A H0 H1 locs1 → W p l e R s m args below meth c H1 locs1 cells slots Q (F0 m (pc + 3) ls rest)) : W p l e R s m args below meth c H locs cells slots Q (F0 m pc ls (.int v :: .ref (P j) :: rest)) := by
  obtain ⟨hlt, hc⟩ := isLaw_eq hj
  obtain ⟨q0, hq⟩ := wC_getP (g := g) (P := P) (σ := σ) hlt
  have hset : poolX (rowI σ (100 + j) (va_up (hI σ (100 + j)) 1 v)) j = .inr (hC σ j, [.int (hI σ (100 + j) 0), .int v]) := by simp [poolX, hI_rowI, hC_rowI, va_up]
  have fin : ∀ (H1 : Heap) (locs1 : List Loc), va_P g.1 vwCl ((wC g P σ).set q0 (P j, .inr (hC σ j, [.int (hI σ (100 + j) 0), .int v]))) H1 → va_D A ((wC g P σ).set q0 (P j, .inr (hC σ j, [.int (hI σ (100 + j) 0), .int v]))) → va_S A H0 H1 locs1 → W p l e R s m args below meth c H1 locs1 cells slots Q (F0 m (pc + 3) ls rest) := by
    intro H1 locs1 hP hD hS
    rw [wC_setP hlt hB.2.1 hq hset] at hP hD
    exact kk H1 locs1 ⟨hP, hD, hS⟩
  unfold poolX at hq
  rcases hc with h | h | h | h | h | h | h <;> rw [h] at hq fin
  · exact va_putF hx hb (T := TX0) ht ui_X0 tyX0 tyX0_ok nmX0 hown hK.1 hB.1 hB.2.1 hB.2.2 q0 hq rfl 1 (by decide) hlink (fun _ h9 => h9) rfl hin2 rfl (by decide +kernel) (ty := .int) rfl rfl (Nat.le_of_ble_eq_true rfl) hdg fin
  · exact va_putF hx hb (T := TX2) ht ui_X2 tyX2 tyX2_ok nmX2 hown hK.1 hB.1 hB.2.1 hB.2.2 q0 hq rfl 1 (by decide) hlink (fun _ h9 => h9) rfl hin2 rfl (by decide +kernel) (ty := .int) rfl rfl (Nat.le_of_ble_eq_true rfl) hdg fin
  · exact va_putF hx hb (T := TX3) ht ui_X3 tyX3 tyX3_ok nmX3 hown hK.1 hB.1 hB.2.1 hB.2.2 q0 hq rfl 1 (by decide) hlink (fun _ h9 => h9) rfl hin2 rfl (by decide +kernel) (ty := .int) rfl rfl (Nat.le_of_ble_eq_true rfl) hdg fin
  · exact va_putF hx hb (T := TX6) ht ui_X6 tyX6 tyX6_ok nmX6 hown hK.1 hB.1 hB.2.1 hB.2.2 q0 hq rfl 1 (by decide) hlink (fun _ h9 => h9) rfl hin2 rfl (by decide +kernel) (ty := .int) rfl rfl (Nat.le_of_ble_eq_true rfl) hdg fin
  · exact va_putF hx hb (T := TX8) ht ui_X8 tyX8 tyX8_ok nmX8 hown hK.1 hB.1 hB.2.1 hB.2.2 q0 hq rfl 1 (by decide) hlink (fun _ h9 => h9) rfl hin2 rfl (by decide +kernel) (ty := .int) rfl rfl (Nat.le_of_ble_eq_true rfl) hdg fin
  · exact va_putF hx hb (T := TX9) ht ui_X9 tyX9 tyX9_ok nmX9 hown hK.1 hB.1 hB.2.1 hB.2.2 q0 hq rfl 1 (by decide) hlink (fun _ h9 => h9) rfl hin2 rfl (by decide +kernel) (ty := .int) rfl rfl (Nat.le_of_ble_eq_true rfl) hdg fin
  · exact va_putF hx hb (T := TX10) ht ui_X10 tyX10 tyX10_ok nmX10 hown hK.1 hB.1 hB.2.1 hB.2.2 q0 hq rfl 1 (by decide) hlink (fun _ h9 => h9) rfl hin2 rfl (by decide +kernel) (ty := .int) rfl rfl (Nat.le_of_ble_eq_true rfl) hdg fin
theorem R_runSQ {own : String} {index nL maxL n mc ms : Nat} {y : MethodName} {bytes : ByteArray} {ret : Option FieldType} {Ts : List Cond} {rm : Room} {As st0 : List Value} {Qc : Array Value → State → Outcome → State → Prop} {free : Addr → Prop} (S : CallFix p m c cc nL s args Ts own) (hG : ∀ w ∈ tblG, w ∈ Ts)
    (hK : tK g s) (hZ : tZ g A s s.heap) (hA : ∀ q, s.heap.size ≤ q → A q) (hB : tB g P σ A s.heap H locs)
    (hM : Met l y (Cond.code y bytes maxL ret :: tblG) rm (va_Pc As (tPre g P σ H.size)) Qc mc ms free) (hw : Cond.code y bytes maxL ret ∈ tblG) (hl : Cond.methodLink own index y ∈ tblG) (hs : Cond.static y ∈ tblG) (hi : Cond.initialized y.cls ∈ tblG)
    (hd : y.cls ≠ "java/lang/invoke/MethodHandle" ∧ y.cls ≠ "java/lang/invoke/VarHandle" ∧ (parseMethodDescriptor y.desc).map (fun d => d.parameters.length) = some n) (hrc : rm.cells = mc) (hrs : rm.slots = ms) (hR : rm.frames + 1 ≤ R.frames ∧ 8 + (maxL + 11) + rm.locals ≤ R.locals)
    (hn : As.length = n) (hsize : ls.size = nL) (hst : st0 = As.reverse ++ rest) (hW : (rest.map fun v => v.category).sum ≤ 8) (hdg : decode cc pc = .ok (.invokestatic index, 3)) (hf : cells + mc ≤ R.cells ∧ slots + ms ≤ R.slots) :
    va_Run p l e R s m args below meth c H locs cells slots mc ms (F0 m pc ls st0) rest (Qc As.toArray) free := by
  have ok : ∀ w ∈ tblG, w.before args s = true := fun w h => S.2.2.2.2 w (hG w h)
  exact va_runS S hM ⟨callB_of n S.2.2.2.2 (tblG_good hG hw) rfl hrc hrs (ok _ hi) (ok _ hl) hd hR, ok _ hs⟩ ⟨tPre_blind, fun U hU hWu => ⟨rfl, tPre_of hK hZ hA hB U hU hWu⟩⟩ rfl hn hsize hst (lv_room hW) hdg hf
/-- the call of newLaw: the answer is the new one, at its new address -/
def tQL (j : Nat) (B : (Nat → Nat) → State → Prop) (A : Nat → Prop) : Array Value → State → Outcome → State → Prop := fun _ st oc t => ∃ P1, oc = .returned (some (.ref (P1 j))) ∧ B P1 t ∧ va_F A st t
theorem R_callL {τ : Hp} {a : Array Value} {st0 : List Value} {mc ms j : Nat} (hr : va_Run p l e R s m args below meth c H locs cells slots mc ms (F0 m pc ls st0) rest (tQL j (fun P1 t => tPost g P1 τ (va_A (wC g P σ) H.size) t) (va_A (wC g P σ) H.size) a) (va_A (wC g P σ) H.size)) (hB : tB g P σ A H0 H locs) (hA : ∀ q, H0.size ≤ q → A q)
    (kk : ∀ (P : Nat → Nat) (H1 : Heap) (locs1 : List Loc), tB g P τ A H0 H1 locs1 → W p l e R s m args below meth c H1 locs1 (cells + mc) (slots + ms) Q (F0 m (pc + 3) ls (.ref (P j) :: rest))) : W p l e R s m args below meth c H locs cells slots Q (F0 m pc ls st0) := by
  have hF := tB_free hB hA
  have hS := hB.2.2
  intro T hT X
  obtain ⟨v', st₀, t, T', L, h0, X', hL, e1, e2, ⟨P1, hv, ⟨hP1, hD1⟩, hz, hk⟩, st⟩ := hr T hT X
  cases hv
  rw [h0] at hz hk
  obtain ⟨t2, a1, b1⟩ := kk P1 T'.heap (locs ++ L) ⟨by rw [e1]; exact hP1, hD1.weaken (fun k q _ h => hF q.1 h), Nat.le_trans hS.1 (by rw [e1]; exact hz), fun q h1 h2 => by rw [e1, hk q (Nat.lt_of_lt_of_le h1 hS.1) (fun z => h2 (hF q z))]; exact hS.2.1 q h1 h2, fun q hq => by
      rcases List.mem_append.mp hq with h | h
      · exact hS.2.2 q h
      · exact hF _ (hL q h)⟩ T' rfl X'
  exact ⟨t2, st t2 a1, b1⟩
theorem R_endL {j : Nat} (hB : tB g P σ A s.heap H locs) : ∀ t : State, t.heap = H → s.WarmedH t.vm → tQL j (fun P1 t => tPost g P1 σ A t) A args s (.returned (some (.ref (P j)))) t := fun t ht _ => ⟨P, rfl, ⟨by rw [ht]; exact hB.1, hB.2.1⟩, hB.2.2.F ht⟩
end TR5
theorem T_startQ {l : Launch} {g : tG} {P : Nat → Nat} {σ : Hp} {sz : Nat} {y : MethodName} {bytes : ByteArray} {maxL : Nat} {ret : Option FieldType} {rm : Room} {av : List Value} {Qf : (Nat → Prop) → Array Value → State → Outcome → State → Prop} {mc ms : Nat} (hy : plainName y.cls = true) (hlen : (lg_sl av).length ≤ maxL)
    (body : ∀ (p : Program) (e : Env) (s : State) (m : MethodId) (args : Array Value) (below : List Frame) (meth : Method) (c : Code) (ls : Array Slot) (A : Nat → Prop), p.tables.exec = Jvm.exec → c.code = bytes → c.maxLocals = maxL → meth.sig.returnType = ret → s.vm.findClass y.cls = some m.cls → meth.locks = false → (∀ w ∈ tblG, w.before args s = true) → meth.name = y.name → tK g s → tZ g A s s.heap → (∀ q, s.heap.size ≤ q → A q) → tB g P σ A s.heap s.heap [] → lv_has ls maxL (lv_args 0 av) →
      W p l e rm s m args below meth c s.heap [] 0 0 (MQ below (Qf A) args s mc ms A) (F0 m 0 ls [])) : Met l y (Cond.code y bytes maxL ret :: tblG) rm (va_Pc av (tPre g P σ sz)) (Qf (va_A (wC g P σ) sz)) mc ms (va_A (wC g P σ) sz) := by
  refine Met.ofW (cc := bytes) (maxL := maxL) (ret := ret) hy rfl ?_
  intro p e s m args below meth c s₁ Bd hml hv
  obtain ⟨rfl, hsz, hP, hK, hD0, hZ⟩ := hv
  have hts := atoms_spec (ws := Cond.code y bytes maxL ret :: tblG) Bd.pre
  have hown : s.vm.findClass y.cls = some m.cls := findClass_of_methodNamed Bd.named
  have hlocks := Bd.notSynchronized
  subst hsz
  have hD := hD0.self (sz := s.heap.size)
  generalize hAe : va_A (wC g P σ) s.heap.size = A at hD hZ ⊢
  have hA : ∀ q : Nat, s.heap.size ≤ q → A q := fun q h => by rw [← hAe]; exact Or.inr h
  have hl := lv_entry av (n := maxL) hlen
  rw [lg_entry_eq]
  generalize (lg_sl av ++ List.replicate (maxL - (lg_sl av).length) Slot.unset).toArray = ls at hl ⊢
  exact body p e s m av.toArray below meth c ls A Bd.exec Bd.bytes hml Bd.returns hown hlocks (fun w h => hts w (List.mem_cons_of_mem _ h)) (name_of_methodNamed Bd.named Bd.method).1 hK hZ hA ⟨hP, hD, va_S.rf⟩ hl
abbrev WN (p : Program) (l : Launch) (e : Env) (R : Room) (s : State) (m : MethodId) (args : Array Value) (below : List Frame) (meth : Method) (c : Code) (g : tG) (A : Nat → Prop) (v : Option Value) (τ : Hp) (mc ms : Nat) (H : Heap) (locs : List Loc) (cells slots : Nat) (fr : JFrame) : Prop := W p l e R s m args below meth c H locs cells slots (MQ below (tQ v (fun t => ∃ P1, tPost g P1 τ A t) A) args s mc ms A) fr
abbrev tPN (g : tG) (τ : Hp) (A : Nat → Prop) : State → Prop := fun t => ∃ P1, tPost g P1 τ A t
/-! how many laws a text's reading may make: one an item -/
abbrev rd_I (x : Int32) : Prop := 0 ≤ x.toInt ∧ x.toInt ≤ 161
theorem rd_cl (x : Int32) : x.toNatClampNeg = x.toInt.toNat := rfl
theorem rd_a {x : Int32} (h : rd_I x) : x.toNatClampNeg ≤ 161 ∧ 2 * x.toNatClampNeg ≤ 322 := by
  rw [rd_cl]
  obtain ⟨h1, h2⟩ := h
  omega
theorem rd_b {x : Int32} (h : rd_I x) (h3 : ¬ (160 : Int32) < x) : x.toNatClampNeg + 1 ≤ 161 ∧ 2 * x.toNatClampNeg + 2 ≤ 322 ∧ x.toNatClampNeg + 1 = (x + 1).toNatClampNeg ∧ 2 * x.toNatClampNeg + 2 = 2 * (x + 1).toNatClampNeg ∧ rd_I (x + 1) := by
  obtain ⟨h1, h2⟩ := h
  have h4 : x.toInt ≤ 160 := by
    have := Int32.not_lt.mp h3
    simpa using Int32.le_iff_toInt_le.mp this
  have e : (x + 1).toInt = x.toInt + 1 := by
    rw [Int32.toInt_add]
    show (x.toInt + 1).bmod (2 ^ 32) = x.toInt + 1
    rw [Int.bmod_def]
    omega
  unfold rd_I
  rw [rd_cl, rd_cl, e]
  omega
