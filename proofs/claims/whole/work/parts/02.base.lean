/-! the state of class and reference: ints, longs, references by (cell, place); the kinds of the made laws; how many -/
abbrev Hp : Type := (Nat → Nat → Int32) × (Nat → Nat → Int64) × (Nat → Nat → Option Nat) × (Nat → Nat) × Nat
def hI (σ : Hp) : Nat → Nat → Int32 := σ.1
def hJ (σ : Hp) : Nat → Nat → Int64 := σ.2.1
def hR (σ : Hp) : Nat → Nat → Option Nat := σ.2.2.1
def hC (σ : Hp) : Nat → Nat := σ.2.2.2.1
def hN (σ : Hp) : Nat := σ.2.2.2.2
def rowI (σ : Hp) (k : Nat) (f : Nat → Int32) : Hp := (fun j => if j = k then f else hI σ j, hJ σ, hR σ, hC σ, hN σ)
def rowJ (σ : Hp) (k : Nat) (f : Nat → Int64) : Hp := (hI σ, fun j => if j = k then f else hJ σ j, hR σ, hC σ, hN σ)
def rowR (σ : Hp) (k : Nat) (f : Nat → Option Nat) : Hp := (hI σ, hJ σ, fun j => if j = k then f else hR σ j, hC σ, hN σ)
def sI (σ : Hp) (k i : Nat) (v : Int32) : Hp := rowI σ k (va_up (hI σ k) i v)
def sJ (σ : Hp) (k i : Nat) (v : Int64) : Hp := rowJ σ k (va_up (hJ σ k) i v)
def sR (σ : Hp) (k i : Nat) (v : Option Nat) : Hp := rowR σ k (va_up (hR σ k) i v)
/-- one more law, of class c (its place in vwCl), its fields 0 -/
def addH (σ : Hp) (c : Nat) : Hp := (fun j => if j = 100 + hN σ then (fun _ => 0) else hI σ j, hJ σ, hR σ, va_up (hC σ) (hN σ) c, hN σ + 1)
theorem hI_rowI (σ : Hp) (k : Nat) (f : Nat → Int32) (j : Nat) : hI (rowI σ k f) j = if j = k then f else hI σ j := rfl
theorem hJ_rowI (σ : Hp) (k : Nat) (f : Nat → Int32) : hJ (rowI σ k f) = hJ σ := rfl
theorem hR_rowI (σ : Hp) (k : Nat) (f : Nat → Int32) : hR (rowI σ k f) = hR σ := rfl
theorem hC_rowI (σ : Hp) (k : Nat) (f : Nat → Int32) : hC (rowI σ k f) = hC σ := rfl
theorem hN_rowI (σ : Hp) (k : Nat) (f : Nat → Int32) : hN (rowI σ k f) = hN σ := rfl
theorem hI_rowJ (σ : Hp) (k : Nat) (f : Nat → Int64) : hI (rowJ σ k f) = hI σ := rfl
theorem hJ_rowJ (σ : Hp) (k : Nat) (f : Nat → Int64) (j : Nat) : hJ (rowJ σ k f) j = if j = k then f else hJ σ j := rfl
theorem hR_rowJ (σ : Hp) (k : Nat) (f : Nat → Int64) : hR (rowJ σ k f) = hR σ := rfl
theorem hC_rowJ (σ : Hp) (k : Nat) (f : Nat → Int64) : hC (rowJ σ k f) = hC σ := rfl
theorem hN_rowJ (σ : Hp) (k : Nat) (f : Nat → Int64) : hN (rowJ σ k f) = hN σ := rfl
theorem hI_rowR (σ : Hp) (k : Nat) (f : Nat → Option Nat) : hI (rowR σ k f) = hI σ := rfl
theorem hJ_rowR (σ : Hp) (k : Nat) (f : Nat → Option Nat) : hJ (rowR σ k f) = hJ σ := rfl
theorem hR_rowR (σ : Hp) (k : Nat) (f : Nat → Option Nat) (j : Nat) : hR (rowR σ k f) j = if j = k then f else hR σ j := rfl
theorem hC_rowR (σ : Hp) (k : Nat) (f : Nat → Option Nat) : hC (rowR σ k f) = hC σ := rfl
theorem hN_rowR (σ : Hp) (k : Nat) (f : Nat → Option Nat) : hN (rowR σ k f) = hN σ := rfl
/-! the lay-out: which cell is what. 0 the class's object; 1 to 3 its states, 4 to 6 their laws, 7 to 9 values, 10 to 12 numbers; 13 the shelves, 14 to 21 each, 22 to 29 their elements; 30 refusals, 31 the reader, 32 ran, 33 run, 34 roundFound, 35 leasts, 36 marks; 40 the reference's object, 40 + f the array in its field f -/
def ky : Nat → Nat
  | 0 => 0
  | 1 => 1
  | 2 => 1
  | 3 => 1
  | 4 => 2
  | 5 => 2
  | 6 => 2
  | 7 => 3
  | 8 => 3
  | 9 => 3
  | 10 => 4
  | 11 => 4
  | 12 => 4
  | 13 => 5
  | 14 => 6
  | 15 => 6
  | 16 => 6
  | 17 => 6
  | 18 => 6
  | 19 => 6
  | 20 => 6
  | 21 => 6
  | 22 => 4
  | 23 => 4
  | 24 => 4
  | 25 => 4
  | 26 => 4
  | 27 => 4
  | 28 => 4
  | 29 => 4
  | 30 => 3
  | 31 => 7
  | 32 => 3
  | 33 => 4
  | 34 => 4
  | 35 => 4
  | 36 => 4
  | 40 => 8
  | 45 => 3
  | 46 => 3
  | 47 => 3
  | 48 => 3
  | 49 => 4
  | 50 => 3
  | 51 => 3
  | 52 => 3
  | 53 => 3
  | 54 => 4
  | 55 => 4
  | 56 => 3
  | 57 => 3
  | 63 => 3
  | 64 => 3
  | 65 => 4
  | 66 => 4
  | 67 => 3
  | 69 => 4
  | 70 => 4
  | 73 => 3
  | 74 => 4
  | 75 => 3
  | _ => 99
def ln : Nat → Nat
  | 4 => 6
  | 5 => 6
  | 6 => 6
  | 7 => 60
  | 8 => 60
  | 9 => 60
  | 10 => 20
  | 11 => 20
  | 12 => 20
  | 13 => 8
  | 22 => 160
  | 23 => 160
  | 24 => 160
  | 25 => 160
  | 26 => 160
  | 27 => 160
  | 28 => 160
  | 29 => 160
  | 30 => 7
  | 32 => 21
  | 33 => 1001
  | 34 => 3
  | 35 => 500
  | 36 => 157
  | 45 => 8
  | 46 => 6
  | 47 => 6
  | 48 => 60
  | 49 => 20
  | 50 => 8
  | 51 => 8
  | 52 => 8
  | 53 => 8
  | 54 => 1280
  | 55 => 160
  | 56 => 29
  | 57 => 3
  | 63 => 80
  | 64 => 80
  | 65 => 20
  | 66 => 20
  | 67 => 64
  | 69 => 1001
  | 70 => 201
  | 73 => 10000
  | 74 => 500
  | 75 => 20
  | _ => 0
abbrev idL : List Nat := [0, 1, 2, 3, 4, 5, 6, 7, 8, 9, 10, 11, 12, 13, 14, 15, 16, 17, 18, 19, 20, 21, 22, 23, 24, 25, 26, 27, 28, 29, 30, 31, 32, 33, 34, 35, 36, 40, 45, 46, 47, 48, 49, 50, 51, 52, 53, 54, 55, 56, 57, 63, 64, 65, 66, 67, 69, 70, 73, 74, 75]
/-- what the machine gives of the launch: classes and slots; the array classes (0 ints, 1 longs, 2 laws, 3 shelves); the cells' addresses; those of the texts and of their bytes; the formatter -/
abbrev tG : Type := va_G × (Nat → ClassId) × (Nat → Nat) × (Nat → Nat) × (Nat → Nat) × Option Nat
abbrev gC (g : tG) : Nat → ClassId := g.2.1
abbrev gL (g : tG) : Nat → Nat := g.2.2.1
abbrev gK (g : tG) : Nat → Nat := g.2.2.2.1
abbrev gV (g : tG) : Nat → Nat := g.2.2.2.2.1
abbrev gF (g : tG) : Option Nat := g.2.2.2.2.2
def cellX (g : tG) (P : Nat → Nat) (σ : Hp) (k : Nat) : va_E :=
  if ky k = 3 then .inl (gC g 0, ln k, .inl (hI σ k))
  else if ky k = 4 then .inl (gC g 1, ln k, .inr (.inl (hJ σ k)))
  else if ky k = 2 then .inl (gC g 2, ln k, .inr (.inr (.inr (.inr (fun i => (hR σ k i).map P)))))
  else if ky k = 5 then .inl (gC g 3, ln k, .inr (.inr (.inr (.inr (fun i => some (gL g (14 + i)))))))
  else if ky k = 1 then .inr (6, [.int (hI σ k 0), .int (hI σ k 1), .int (hI σ k 2), .int (hI σ k 3), .ref (gL g (k + 3)), .ref (gL g (k + 6)), .ref (gL g (k + 9))])
  else if ky k = 6 then .inr (4, [.ref (gL g (k + 8)), .int (hI σ k 1), .int (hI σ k 2), .int (hI σ k 3)])
  else if ky k = 7 then .inr (3, [.ref (gL g 2), va_rf ((hR σ k 1).map (gL g)), .int (hI σ k 2), .int (hI σ k 3), .int (hI σ k 4), .int (hI σ k 5)])
  else if ky k = 0 then .inr (10, [.ref (gL g 1), .ref (gL g 3), .int (hI σ k 3), .ref (gL g 13), .ref (gL g 30), .ref (gL g 31), .int (hI σ k 7), .ref (gL g 32), .ref (gL g 33), .ref (gL g 34), .ref (gL g 35), .ref (gL g 36)])
  else .inr (11, [.int (hI σ k 0), .int (hI σ k 1), .int (hI σ k 2), .int (hI σ k 3), .int (hI σ k 4), .ref (gL g 45), .ref (gL g 46), .ref (gL g 47), .ref (gL g 48), .ref (gL g 49), .ref (gL g 50), .ref (gL g 51), .ref (gL g 52), .ref (gL g 53), .ref (gL g 54), .ref (gL g 55), .ref (gL g 56), .ref (gL g 57), .int (hI σ k 18), .int (hI σ k 19), .int (hI σ k 20), .int (hI σ k 21), .int (hI σ k 22), .ref (gL g 63), .ref (gL g 64), .ref (gL g 65), .ref (gL g 66), .ref (gL g 67), .long (hJ σ k 28), .ref (gL g 69), .ref (gL g 70), .int (hI σ k 31), .int (hI σ k 32), .ref (gL g 73), .ref (gL g 74), .ref (gL g 75), .int (hI σ k 36), .int (hI σ k 37)])
def poolX (σ : Hp) (j : Nat) : va_E := .inr (hC σ j, [.int (hI σ (100 + j) 0), .int (hI σ (100 + j) 1)])
def wC (g : tG) (P : Nat → Nat) (σ : Hp) : va_W := idL.map (fun k => (gL g k, cellX g P σ k)) ++ (List.range (hN σ)).map (fun j => (P j, poolX σ j))
theorem cellX_congr {g : tG} {P : Nat → Nat} {σ τ : Hp} {k : Nat} (h1 : hI τ k = hI σ k) (h2 : hJ τ k = hJ σ k) (h3 : hR τ k = hR σ k) : cellX g P τ k = cellX g P σ k := by
  simp only [cellX, h1, h2, h3]
theorem wC_get {g : tG} {P : Nat → Nat} {σ : Hp} {k : Nat} (hk : k ∈ idL) : ∃ q0 : Nat, (wC g P σ)[q0]? = some (gL g k, cellX g P σ k) := by
  apply List.getElem?_of_mem
  exact List.mem_append_left _ (List.mem_map.mpr ⟨k, hk, rfl⟩)
theorem wC_getP {g : tG} {P : Nat → Nat} {σ : Hp} {j : Nat} (hj : j < hN σ) : ∃ q0 : Nat, (wC g P σ)[q0]? = some (P j, poolX σ j) := by
  apply List.getElem?_of_mem
  exact List.mem_append_right _ (List.mem_map.mpr ⟨j, List.mem_range.mpr hj, rfl⟩)
theorem wC_set {g : tG} {P : Nat → Nat} {σ τ : Hp} {A : Nat → Prop} {k q0 : Nat} {e0 e : va_E} (hk : k ∈ idL) (hD : va_D A (wC g P σ)) (hq : (wC g P σ)[q0]? = some (gL g k, e0)) (he : cellX g P τ k = e)
    (ho : ∀ j, j ∈ idL → j ≠ k → cellX g P τ j = cellX g P σ j) (hn : hN τ = hN σ) (hp : ∀ j, poolX τ j = poolX σ j) : (wC g P σ).set q0 (gL g k, e) = wC g P τ := by
  obtain ⟨i0, hi0⟩ := List.getElem?_of_mem hk
  have hl0 : i0 < idL.length := (List.getElem?_eq_some_iff.mp hi0).1
  have hpos : (wC g P σ)[i0]? = some (gL g k, cellX g P σ k) := by
    unfold wC
    rw [List.getElem?_append_left (by rw [List.length_map]; exact hl0), List.getElem?_map, hi0]
    rfl
  have h00 : q0 = i0 := hD.1 q0 i0 _ _ hq hpos rfl
  subst h00
  apply List.ext_getElem?
  intro i
  by_cases hi : i = q0
  · subst hi
    rw [List.getElem?_set_self (List.getElem?_eq_some_iff.mp hq).1]
    unfold wC
    rw [List.getElem?_append_left (by rw [List.length_map]; exact hl0), List.getElem?_map, hi0]
    simp only [Option.map_some, he]
  · rw [List.getElem?_set_ne (Ne.symm hi)]
    unfold wC
    by_cases hil : i < idL.length
    · rw [List.getElem?_append_left (by rw [List.length_map]; exact hil), List.getElem?_append_left (by rw [List.length_map]; exact hil), List.getElem?_map, List.getElem?_map]
      cases hj : idL[i]? with
      | none => rfl
      | some j =>
        have hjk : j ≠ k := by
          intro e
          subst e
          have hpi : (wC g P σ)[i]? = some (gL g j, cellX g P σ j) := by
            unfold wC
            rw [List.getElem?_append_left (by rw [List.length_map]; exact hil), List.getElem?_map, hj]
            rfl
          exact hi (hD.1 i q0 _ _ hpi hpos rfl)
        simp only [Option.map_some, ho j (List.mem_of_getElem? hj) hjk]
    · rw [List.getElem?_append_right (by rw [List.length_map]; omega), List.getElem?_append_right (by rw [List.length_map]; omega), hn]
      simp only [List.getElem?_map, List.length_map, hp]
theorem idL_lt : ∀ k, k ∈ idL → k < 100 := by decide +kernel
theorem pool_rowI {σ : Hp} {k : Nat} (hk : k < 100) (f : Nat → Int32) (j : Nat) : poolX (rowI σ k f) j = poolX σ j := by
  simp only [poolX, hI_rowI, hC_rowI, if_neg (show ¬ 100 + j = k by omega)]
theorem wC_setI {g : tG} {P : Nat → Nat} {σ : Hp} {A : Nat → Prop} {k q0 : Nat} {e0 e : va_E} {f : Nat → Int32} (hk : k ∈ idL) (hD : va_D A (wC g P σ)) (hq : (wC g P σ)[q0]? = some (gL g k, e0)) (he : cellX g P (rowI σ k f) k = e) : (wC g P σ).set q0 (gL g k, e) = wC g P (rowI σ k f) :=
  wC_set hk hD hq he (fun j _ hj => cellX_congr (by rw [hI_rowI, if_neg hj]) rfl rfl) rfl (pool_rowI (idL_lt k hk) f)
theorem wC_setJ {g : tG} {P : Nat → Nat} {σ : Hp} {A : Nat → Prop} {k q0 : Nat} {e0 e : va_E} {f : Nat → Int64} (hk : k ∈ idL) (hD : va_D A (wC g P σ)) (hq : (wC g P σ)[q0]? = some (gL g k, e0)) (he : cellX g P (rowJ σ k f) k = e) : (wC g P σ).set q0 (gL g k, e) = wC g P (rowJ σ k f) :=
  wC_set hk hD hq he (fun j _ hj => cellX_congr rfl (by rw [hJ_rowJ, if_neg hj]) rfl) rfl (fun _ => rfl)
theorem wC_setR {g : tG} {P : Nat → Nat} {σ : Hp} {A : Nat → Prop} {k q0 : Nat} {e0 e : va_E} {f : Nat → Option Nat} (hk : k ∈ idL) (hD : va_D A (wC g P σ)) (hq : (wC g P σ)[q0]? = some (gL g k, e0)) (he : cellX g P (rowR σ k f) k = e) : (wC g P σ).set q0 (gL g k, e) = wC g P (rowR σ k f) :=
  wC_set hk hD hq he (fun j _ hj => cellX_congr rfl rfl (by rw [hR_rowR, if_neg hj])) rfl (fun _ => rfl)
theorem cell_3 {g : tG} {P : Nat → Nat} {σ : Hp} {k : Nat} (h : ky k = 3) : cellX g P σ k = .inl (gC g 0, ln k, .inl (hI σ k)) := by simp only [cellX, h, if_true]
theorem cell_4 {g : tG} {P : Nat → Nat} {σ : Hp} {k : Nat} (h : ky k = 4) : cellX g P σ k = .inl (gC g 1, ln k, .inr (.inl (hJ σ k))) := by simp [cellX, h]
theorem cell_2 {g : tG} {P : Nat → Nat} {σ : Hp} {k : Nat} (h : ky k = 2) : cellX g P σ k = .inl (gC g 2, ln k, .inr (.inr (.inr (.inr (fun i => (hR σ k i).map P))))) := by simp [cellX, h]
theorem cell_5 {g : tG} {P : Nat → Nat} {σ : Hp} {k : Nat} (h : ky k = 5) : cellX g P σ k = .inl (gC g 3, ln k, .inr (.inr (.inr (.inr (fun i => some (gL g (14 + i))))))) := by simp [cellX, h]
theorem cell_1 {g : tG} {P : Nat → Nat} {σ : Hp} {k : Nat} (h : ky k = 1) : cellX g P σ k = .inr (6, [.int (hI σ k 0), .int (hI σ k 1), .int (hI σ k 2), .int (hI σ k 3), .ref (gL g (k + 3)), .ref (gL g (k + 6)), .ref (gL g (k + 9))]) := by simp [cellX, h]
theorem cell_6 {g : tG} {P : Nat → Nat} {σ : Hp} {k : Nat} (h : ky k = 6) : cellX g P σ k = .inr (4, [.ref (gL g (k + 8)), .int (hI σ k 1), .int (hI σ k 2), .int (hI σ k 3)]) := by simp [cellX, h]
theorem cell_7 {g : tG} {P : Nat → Nat} {σ : Hp} {k : Nat} (h : ky k = 7) : cellX g P σ k = .inr (3, [.ref (gL g 2), va_rf ((hR σ k 1).map (gL g)), .int (hI σ k 2), .int (hI σ k 3), .int (hI σ k 4), .int (hI σ k 5)]) := by simp [cellX, h]
theorem cell_0 {g : tG} {P : Nat → Nat} {σ : Hp} {k : Nat} (h : ky k = 0) : cellX g P σ k = .inr (10, [.ref (gL g 1), .ref (gL g 3), .int (hI σ k 3), .ref (gL g 13), .ref (gL g 30), .ref (gL g 31), .int (hI σ k 7), .ref (gL g 32), .ref (gL g 33), .ref (gL g 34), .ref (gL g 35), .ref (gL g 36)]) := by simp [cellX, h]
theorem cell_8 {g : tG} {P : Nat → Nat} {σ : Hp} {k : Nat} (h : ky k = 8) : cellX g P σ k = .inr (11, [.int (hI σ k 0), .int (hI σ k 1), .int (hI σ k 2), .int (hI σ k 3), .int (hI σ k 4), .ref (gL g 45), .ref (gL g 46), .ref (gL g 47), .ref (gL g 48), .ref (gL g 49), .ref (gL g 50), .ref (gL g 51), .ref (gL g 52), .ref (gL g 53), .ref (gL g 54), .ref (gL g 55), .ref (gL g 56), .ref (gL g 57), .int (hI σ k 18), .int (hI σ k 19), .int (hI σ k 20), .int (hI σ k 21), .int (hI σ k 22), .ref (gL g 63), .ref (gL g 64), .ref (gL g 65), .ref (gL g 66), .ref (gL g 67), .long (hJ σ k 28), .ref (gL g 69), .ref (gL g 70), .int (hI σ k 31), .int (hI σ k 32), .ref (gL g 73), .ref (gL g 74), .ref (gL g 75), .int (hI σ k 36), .int (hI σ k 37)]) := by simp [cellX, h]
theorem ky_in : ∀ k, ky k ≠ 99 → k ∈ idL := by
  intro k h
  by_cases hk : k < 76
  · exact (by decide +kernel : ∀ k, k < 76 → ky k ≠ 99 → k ∈ idL) k hk h
  · exact absurd (by unfold ky; split <;> first | omega | rfl) h
/-! what never changes in a run: classes, texts -/
abbrev tyG (g : tG) : List (ClassId × FieldType) := [(gC g 0, .int), (gC g 1, .long), (gC g 2, .object "TurnedAbout$Law"), (gC g 3, .object "TurnedAbout$Shelf")]
abbrev txIx : List Nat := [68, 83, 92, 113, 123]
abbrev txTx : List String := ["base", "law", "value", "write", "go"]
abbrev txLen : List Nat := [4, 3, 5, 5, 2]
abbrev txByt : List (List Int32) := [[98, 97, 115, 101], [108, 97, 119], [118, 97, 108, 117, 101], [119, 114, 105, 116, 101], [103, 111]]
abbrev suNm : List String := ["TurnedAbout$Cube", "TurnedAbout$Order", "TurnedAbout$Square", "TurnedAbout$Take", "TurnedAbout$Times", "TurnedAbout$Told"]
def tK (g : tG) (U : State) : Prop := va_K g.1 vwCl (tyG g) U ∧ va_Nw (.methodLinkNest RX1 23 yX11_isNumber "TurnedAbout") U ∧ (∀ i, i < 5 → vk_R RX4 (txIx.getD i 0) (txTx.getD i "") (gK g i) U) ∧ (∀ C ∈ suNm, va_Nw (.castable C "TurnedAbout$Law") U) ∧ va_AO "TurnedAbout$Law" U ∧ va_AO "TurnedAbout$Shelf" U
def tZ (g : tG) (A : Nat → Prop) (U : State) (H : Heap) : Prop := vk_S 5 txLen txByt (gK g) (gV g) A U H ∧ va_Z "java/lang/String" "COMPACT_STRINGS" "Z" (.int 1) A U H ∧ va_Z "jdk/internal/util/Preconditions" "SIOOBE_FORMATTER" "Ljava/util/function/BiFunction;" (va_rf (gF g)) A U H
theorem tK.same {g : tG} {u U : State} (hv : U.vm = u.vm) (h : tK g u) : tK g U :=
  ⟨va_K.moved (by rw [hv]; exact Vm.Alike.refl _) h.1, va_Nw.same rfl hv.symm h.2.1, fun i hi => vk_R.same hv (h.2.2.1 i hi), fun C hC => va_Nw.same rfl hv.symm (h.2.2.2.1 C hC), va_AO.moved (by rw [hv]; exact Vm.Alike.refl _) h.2.2.2.2.1, va_AO.moved (by rw [hv]; exact Vm.Alike.refl _) h.2.2.2.2.2⟩
theorem tK.warm {g : tG} {s U : State} (hW : s.WarmedH U.vm) (h : tK g s) : tK g U :=
  ⟨va_K.moved hW.alike h.1, va_Nw.warmM hW h.2.1, fun i hi => vk_R.warm hW (h.2.2.1 i hi), fun C hC => va_Nw.warmC hW (h.2.2.2.1 C hC), va_AO.moved hW.alike h.2.2.2.2.1, va_AO.moved hW.alike h.2.2.2.2.2⟩
theorem tZ.moved {g : tG} {A : Nat → Prop} {u U : State} {H : Heap} (hvm : u.vm.Alike U.vm) (h : tZ g A u H) : tZ g A U H := ⟨h.1.moved hvm, h.2.1.moved hvm, h.2.2.moved hvm⟩
theorem tZ.kept {g : tG} {A : Nat → Prop} {U : State} {H H1 : Heap} (h : tZ g A U H) (hq : ∀ a : Nat, a < H.size → ¬ A a → H1[a]? = H[a]?) : tZ g A U H1 := ⟨h.1.kept hq, h.2.1.kept hq, h.2.2.kept hq⟩
theorem tZ.narrow {g : tG} {A B : Nat → Prop} {U : State} {H : Heap} (h : tZ g A U H) (hAB : ∀ q, B q → A q) : tZ g B U H := ⟨h.1.narrow hAB, h.2.1.narrow hAB, h.2.2.narrow hAB⟩
/-! a method's start and end -/
def tPre (g : tG) (P : Nat → Nat) (σ : Hp) (sz : Nat) : State → Prop := fun U => U.heap.size = sz ∧ va_P g.1 vwCl (wC g P σ) U.heap ∧ tK g U ∧ va_D (fun _ => True) (wC g P σ) ∧ tZ g (va_A (wC g P σ) sz) U U.heap
def tPost (g : tG) (P : Nat → Nat) (σ : Hp) (A : Nat → Prop) : State → Prop := fun t => va_P g.1 vwCl (wC g P σ) t.heap ∧ va_D A (wC g P σ)
def tQ (v : Option Value) (B : State → Prop) (A : Nat → Prop) : Array Value → State → Outcome → State → Prop := fun _ st oc t => oc = .returned v ∧ B t ∧ va_F A st t
def tB (g : tG) (P : Nat → Nat) (σ : Hp) (A : Nat → Prop) (H0 H : Heap) (locs : List Loc) : Prop := va_P g.1 vwCl (wC g P σ) H ∧ va_D A (wC g P σ) ∧ va_S A H0 H locs
theorem tPre_blind {g : tG} {P : Nat → Nat} {σ : Hp} {sz : Nat} {av : List Value} : FrameBlind (va_Pc av (tPre g P σ sz)) := by
  intro a U gg mk h
  obtain ⟨h0, h1, h2, h3, h4, h5⟩ := h
  exact ⟨h0, h1, h2, tK.same (u := U) (U := U.calling gg mk a) rfl h3, h4, tZ.moved (u := U) (U := U.calling gg mk a) (Vm.Alike.refl U.vm) h5⟩
theorem tB_free {g : tG} {P : Nat → Nat} {σ : Hp} {A : Nat → Prop} {H0 H : Heap} {locs : List Loc} (hB : tB g P σ A H0 H locs) (hA : ∀ q, H0.size ≤ q → A q) : ∀ q, va_A (wC g P σ) H.size q → A q := by
  intro q h
  rcases h with ⟨k, e, h⟩ | h
  · exact hB.2.1.2 k _ h
  · exact hA q (Nat.le_trans hB.2.2.1 h)
theorem tPre_of {g : tG} {P : Nat → Nat} {σ : Hp} {A : Nat → Prop} {H : Heap} {locs : List Loc} {s : State} (hK : tK g s) (hZ : tZ g A s s.heap) (hA : ∀ q, s.heap.size ≤ q → A q) (hB : tB g P σ A s.heap H locs) : ∀ U : State, U.heap = H → s.WarmedH U.vm → tPre g P σ H.size U := by
  intro U hU hW
  refine ⟨by rw [hU], by rw [hU]; exact hB.1, hK.warm hW, hB.2.1.weaken (fun _ _ _ _ => trivial), ?_⟩
  rw [hU]
  exact ((hZ.kept hB.2.2.2.1).moved hW.alike).narrow (tB_free hB hA)
