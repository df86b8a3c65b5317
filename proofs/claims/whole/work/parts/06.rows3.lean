theorem ky_s3 {k : Nat} (h : ky k = 1) : ky (k + 3) = 2 := by
  have hk := ky_in k (by rw [h]; decide)
  exact (by decide +kernel : ∀ k, k ∈ idL → ky k = 1 → ky (k + 3) = 2) k hk h
theorem ln_s3 {k : Nat} (h : ky k = 1) : ln (k + 3) = 6 := by
  have hk := ky_in k (by rw [h]; decide)
  exact (by decide +kernel : ∀ k, k ∈ idL → ky k = 1 → ln (k + 3) = 6) k hk h
theorem ky_s6 {k : Nat} (h : ky k = 1) : ky (k + 6) = 3 := by
  have hk := ky_in k (by rw [h]; decide)
  exact (by decide +kernel : ∀ k, k ∈ idL → ky k = 1 → ky (k + 6) = 3) k hk h
theorem ln_s6 {k : Nat} (h : ky k = 1) : ln (k + 6) = 60 := by
  have hk := ky_in k (by rw [h]; decide)
  exact (by decide +kernel : ∀ k, k ∈ idL → ky k = 1 → ln (k + 6) = 60) k hk h
theorem ky_s9 {k : Nat} (h : ky k = 1) : ky (k + 9) = 4 := by
  have hk := ky_in k (by rw [h]; decide)
  exact (by decide +kernel : ∀ k, k ∈ idL → ky k = 1 → ky (k + 9) = 4) k hk h
theorem ln_s9 {k : Nat} (h : ky k = 1) : ln (k + 9) = 20 := by
  have hk := ky_in k (by rw [h]; decide)
  exact (by decide +kernel : ∀ k, k ∈ idL → ky k = 1 → ln (k + 9) = 20) k hk h
theorem ky_e8 {k : Nat} (h : ky k = 6) : ky (k + 8) = 4 := by
  have hk := ky_in k (by rw [h]; decide)
  exact (by decide +kernel : ∀ k, k ∈ idL → ky k = 6 → ky (k + 8) = 4) k hk h
theorem ln_e8 {k : Nat} (h : ky k = 6) : ln (k + 8) = 160 := by
  have hk := ky_in k (by rw [h]; decide)
  exact (by decide +kernel : ∀ k, k ∈ idL → ky k = 6 → ln (k + 8) = 160) k hk h
theorem st0_2 {g : tG} {P : Nat → Nat} {σ : Hp} {k : Nat} {v : Int32} (h : ky k = 0) : cellX g P (sI σ k 3 v) k = .inr (10, ([.ref (gL g 1), .ref (gL g 3), .int (hI σ k 3), .ref (gL g 13), .ref (gL g 30), .ref (gL g 31), .int (hI σ k 7), .ref (gL g 32), .ref (gL g 33), .ref (gL g 34), .ref (gL g 35), .ref (gL g 36)] : List Value).set 2 (.int v)) := by rw [cell_0 h]; simp [sI, hI_rowI, hJ_rowI, hR_rowI, va_up]
theorem st0_6 {g : tG} {P : Nat → Nat} {σ : Hp} {k : Nat} {v : Int32} (h : ky k = 0) : cellX g P (sI σ k 7 v) k = .inr (10, ([.ref (gL g 1), .ref (gL g 3), .int (hI σ k 3), .ref (gL g 13), .ref (gL g 30), .ref (gL g 31), .int (hI σ k 7), .ref (gL g 32), .ref (gL g 33), .ref (gL g 34), .ref (gL g 35), .ref (gL g 36)] : List Value).set 6 (.int v)) := by rw [cell_0 h]; simp [sI, hI_rowI, hJ_rowI, hR_rowI, va_up]
theorem st1_0 {g : tG} {P : Nat → Nat} {σ : Hp} {k : Nat} {v : Int32} (h : ky k = 1) : cellX g P (sI σ k 0 v) k = .inr (6, ([.int (hI σ k 0), .int (hI σ k 1), .int (hI σ k 2), .int (hI σ k 3), .ref (gL g (k + 3)), .ref (gL g (k + 6)), .ref (gL g (k + 9))] : List Value).set 0 (.int v)) := by rw [cell_1 h]; simp [sI, hI_rowI, hJ_rowI, hR_rowI, va_up]
theorem st1_1 {g : tG} {P : Nat → Nat} {σ : Hp} {k : Nat} {v : Int32} (h : ky k = 1) : cellX g P (sI σ k 1 v) k = .inr (6, ([.int (hI σ k 0), .int (hI σ k 1), .int (hI σ k 2), .int (hI σ k 3), .ref (gL g (k + 3)), .ref (gL g (k + 6)), .ref (gL g (k + 9))] : List Value).set 1 (.int v)) := by rw [cell_1 h]; simp [sI, hI_rowI, hJ_rowI, hR_rowI, va_up]
theorem st1_2 {g : tG} {P : Nat → Nat} {σ : Hp} {k : Nat} {v : Int32} (h : ky k = 1) : cellX g P (sI σ k 2 v) k = .inr (6, ([.int (hI σ k 0), .int (hI σ k 1), .int (hI σ k 2), .int (hI σ k 3), .ref (gL g (k + 3)), .ref (gL g (k + 6)), .ref (gL g (k + 9))] : List Value).set 2 (.int v)) := by rw [cell_1 h]; simp [sI, hI_rowI, hJ_rowI, hR_rowI, va_up]
theorem st1_3 {g : tG} {P : Nat → Nat} {σ : Hp} {k : Nat} {v : Int32} (h : ky k = 1) : cellX g P (sI σ k 3 v) k = .inr (6, ([.int (hI σ k 0), .int (hI σ k 1), .int (hI σ k 2), .int (hI σ k 3), .ref (gL g (k + 3)), .ref (gL g (k + 6)), .ref (gL g (k + 9))] : List Value).set 3 (.int v)) := by rw [cell_1 h]; simp [sI, hI_rowI, hJ_rowI, hR_rowI, va_up]
theorem st6_1 {g : tG} {P : Nat → Nat} {σ : Hp} {k : Nat} {v : Int32} (h : ky k = 6) : cellX g P (sI σ k 1 v) k = .inr (4, ([.ref (gL g (k + 8)), .int (hI σ k 1), .int (hI σ k 2), .int (hI σ k 3)] : List Value).set 1 (.int v)) := by rw [cell_6 h]; simp [sI, hI_rowI, hJ_rowI, hR_rowI, va_up]
theorem st6_2 {g : tG} {P : Nat → Nat} {σ : Hp} {k : Nat} {v : Int32} (h : ky k = 6) : cellX g P (sI σ k 2 v) k = .inr (4, ([.ref (gL g (k + 8)), .int (hI σ k 1), .int (hI σ k 2), .int (hI σ k 3)] : List Value).set 2 (.int v)) := by rw [cell_6 h]; simp [sI, hI_rowI, hJ_rowI, hR_rowI, va_up]
theorem st6_3 {g : tG} {P : Nat → Nat} {σ : Hp} {k : Nat} {v : Int32} (h : ky k = 6) : cellX g P (sI σ k 3 v) k = .inr (4, ([.ref (gL g (k + 8)), .int (hI σ k 1), .int (hI σ k 2), .int (hI σ k 3)] : List Value).set 3 (.int v)) := by rw [cell_6 h]; simp [sI, hI_rowI, hJ_rowI, hR_rowI, va_up]
theorem st7_1R {g : tG} {P : Nat → Nat} {σ : Hp} {k : Nat} {v : Option Nat} (h : ky k = 7) : cellX g P (sR σ k 1 v) k = .inr (3, ([.ref (gL g 2), va_rf ((hR σ k 1).map (gL g)), .int (hI σ k 2), .int (hI σ k 3), .int (hI σ k 4), .int (hI σ k 5)] : List Value).set 1 (va_rf (v.map (gL g)))) := by rw [cell_7 h]; simp [sR, hI_rowR, hJ_rowR, hR_rowR, va_up]
theorem st7_2 {g : tG} {P : Nat → Nat} {σ : Hp} {k : Nat} {v : Int32} (h : ky k = 7) : cellX g P (sI σ k 2 v) k = .inr (3, ([.ref (gL g 2), va_rf ((hR σ k 1).map (gL g)), .int (hI σ k 2), .int (hI σ k 3), .int (hI σ k 4), .int (hI σ k 5)] : List Value).set 2 (.int v)) := by rw [cell_7 h]; simp [sI, hI_rowI, hJ_rowI, hR_rowI, va_up]
theorem st7_3 {g : tG} {P : Nat → Nat} {σ : Hp} {k : Nat} {v : Int32} (h : ky k = 7) : cellX g P (sI σ k 3 v) k = .inr (3, ([.ref (gL g 2), va_rf ((hR σ k 1).map (gL g)), .int (hI σ k 2), .int (hI σ k 3), .int (hI σ k 4), .int (hI σ k 5)] : List Value).set 3 (.int v)) := by rw [cell_7 h]; simp [sI, hI_rowI, hJ_rowI, hR_rowI, va_up]
theorem st7_4 {g : tG} {P : Nat → Nat} {σ : Hp} {k : Nat} {v : Int32} (h : ky k = 7) : cellX g P (sI σ k 4 v) k = .inr (3, ([.ref (gL g 2), va_rf ((hR σ k 1).map (gL g)), .int (hI σ k 2), .int (hI σ k 3), .int (hI σ k 4), .int (hI σ k 5)] : List Value).set 4 (.int v)) := by rw [cell_7 h]; simp [sI, hI_rowI, hJ_rowI, hR_rowI, va_up]
theorem st7_5 {g : tG} {P : Nat → Nat} {σ : Hp} {k : Nat} {v : Int32} (h : ky k = 7) : cellX g P (sI σ k 5 v) k = .inr (3, ([.ref (gL g 2), va_rf ((hR σ k 1).map (gL g)), .int (hI σ k 2), .int (hI σ k 3), .int (hI σ k 4), .int (hI σ k 5)] : List Value).set 5 (.int v)) := by rw [cell_7 h]; simp [sI, hI_rowI, hJ_rowI, hR_rowI, va_up]
theorem st8_0 {g : tG} {P : Nat → Nat} {σ : Hp} {k : Nat} {v : Int32} (h : ky k = 8) : cellX g P (sI σ k 0 v) k = .inr (11, ([.int (hI σ k 0), .int (hI σ k 1), .int (hI σ k 2), .int (hI σ k 3), .int (hI σ k 4), .ref (gL g 45), .ref (gL g 46), .ref (gL g 47), .ref (gL g 48), .ref (gL g 49), .ref (gL g 50), .ref (gL g 51), .ref (gL g 52), .ref (gL g 53), .ref (gL g 54), .ref (gL g 55), .ref (gL g 56), .ref (gL g 57), .int (hI σ k 18), .int (hI σ k 19), .int (hI σ k 20), .int (hI σ k 21), .int (hI σ k 22), .ref (gL g 63), .ref (gL g 64), .ref (gL g 65), .ref (gL g 66), .ref (gL g 67), .long (hJ σ k 28), .ref (gL g 69), .ref (gL g 70), .int (hI σ k 31), .int (hI σ k 32), .ref (gL g 73), .ref (gL g 74), .ref (gL g 75), .int (hI σ k 36), .int (hI σ k 37)] : List Value).set 0 (.int v)) := by rw [cell_8 h]; simp [sI, hI_rowI, hJ_rowI, hR_rowI, va_up]
theorem st8_1 {g : tG} {P : Nat → Nat} {σ : Hp} {k : Nat} {v : Int32} (h : ky k = 8) : cellX g P (sI σ k 1 v) k = .inr (11, ([.int (hI σ k 0), .int (hI σ k 1), .int (hI σ k 2), .int (hI σ k 3), .int (hI σ k 4), .ref (gL g 45), .ref (gL g 46), .ref (gL g 47), .ref (gL g 48), .ref (gL g 49), .ref (gL g 50), .ref (gL g 51), .ref (gL g 52), .ref (gL g 53), .ref (gL g 54), .ref (gL g 55), .ref (gL g 56), .ref (gL g 57), .int (hI σ k 18), .int (hI σ k 19), .int (hI σ k 20), .int (hI σ k 21), .int (hI σ k 22), .ref (gL g 63), .ref (gL g 64), .ref (gL g 65), .ref (gL g 66), .ref (gL g 67), .long (hJ σ k 28), .ref (gL g 69), .ref (gL g 70), .int (hI σ k 31), .int (hI σ k 32), .ref (gL g 73), .ref (gL g 74), .ref (gL g 75), .int (hI σ k 36), .int (hI σ k 37)] : List Value).set 1 (.int v)) := by rw [cell_8 h]; simp [sI, hI_rowI, hJ_rowI, hR_rowI, va_up]
theorem st8_2 {g : tG} {P : Nat → Nat} {σ : Hp} {k : Nat} {v : Int32} (h : ky k = 8) : cellX g P (sI σ k 2 v) k = .inr (11, ([.int (hI σ k 0), .int (hI σ k 1), .int (hI σ k 2), .int (hI σ k 3), .int (hI σ k 4), .ref (gL g 45), .ref (gL g 46), .ref (gL g 47), .ref (gL g 48), .ref (gL g 49), .ref (gL g 50), .ref (gL g 51), .ref (gL g 52), .ref (gL g 53), .ref (gL g 54), .ref (gL g 55), .ref (gL g 56), .ref (gL g 57), .int (hI σ k 18), .int (hI σ k 19), .int (hI σ k 20), .int (hI σ k 21), .int (hI σ k 22), .ref (gL g 63), .ref (gL g 64), .ref (gL g 65), .ref (gL g 66), .ref (gL g 67), .long (hJ σ k 28), .ref (gL g 69), .ref (gL g 70), .int (hI σ k 31), .int (hI σ k 32), .ref (gL g 73), .ref (gL g 74), .ref (gL g 75), .int (hI σ k 36), .int (hI σ k 37)] : List Value).set 2 (.int v)) := by rw [cell_8 h]; simp [sI, hI_rowI, hJ_rowI, hR_rowI, va_up]
theorem st8_3 {g : tG} {P : Nat → Nat} {σ : Hp} {k : Nat} {v : Int32} (h : ky k = 8) : cellX g P (sI σ k 3 v) k = .inr (11, ([.int (hI σ k 0), .int (hI σ k 1), .int (hI σ k 2), .int (hI σ k 3), .int (hI σ k 4), .ref (gL g 45), .ref (gL g 46), .ref (gL g 47), .ref (gL g 48), .ref (gL g 49), .ref (gL g 50), .ref (gL g 51), .ref (gL g 52), .ref (gL g 53), .ref (gL g 54), .ref (gL g 55), .ref (gL g 56), .ref (gL g 57), .int (hI σ k 18), .int (hI σ k 19), .int (hI σ k 20), .int (hI σ k 21), .int (hI σ k 22), .ref (gL g 63), .ref (gL g 64), .ref (gL g 65), .ref (gL g 66), .ref (gL g 67), .long (hJ σ k 28), .ref (gL g 69), .ref (gL g 70), .int (hI σ k 31), .int (hI σ k 32), .ref (gL g 73), .ref (gL g 74), .ref (gL g 75), .int (hI σ k 36), .int (hI σ k 37)] : List Value).set 3 (.int v)) := by rw [cell_8 h]; simp [sI, hI_rowI, hJ_rowI, hR_rowI, va_up]
theorem st8_4 {g : tG} {P : Nat → Nat} {σ : Hp} {k : Nat} {v : Int32} (h : ky k = 8) : cellX g P (sI σ k 4 v) k = .inr (11, ([.int (hI σ k 0), .int (hI σ k 1), .int (hI σ k 2), .int (hI σ k 3), .int (hI σ k 4), .ref (gL g 45), .ref (gL g 46), .ref (gL g 47), .ref (gL g 48), .ref (gL g 49), .ref (gL g 50), .ref (gL g 51), .ref (gL g 52), .ref (gL g 53), .ref (gL g 54), .ref (gL g 55), .ref (gL g 56), .ref (gL g 57), .int (hI σ k 18), .int (hI σ k 19), .int (hI σ k 20), .int (hI σ k 21), .int (hI σ k 22), .ref (gL g 63), .ref (gL g 64), .ref (gL g 65), .ref (gL g 66), .ref (gL g 67), .long (hJ σ k 28), .ref (gL g 69), .ref (gL g 70), .int (hI σ k 31), .int (hI σ k 32), .ref (gL g 73), .ref (gL g 74), .ref (gL g 75), .int (hI σ k 36), .int (hI σ k 37)] : List Value).set 4 (.int v)) := by rw [cell_8 h]; simp [sI, hI_rowI, hJ_rowI, hR_rowI, va_up]
theorem st8_18 {g : tG} {P : Nat → Nat} {σ : Hp} {k : Nat} {v : Int32} (h : ky k = 8) : cellX g P (sI σ k 18 v) k = .inr (11, ([.int (hI σ k 0), .int (hI σ k 1), .int (hI σ k 2), .int (hI σ k 3), .int (hI σ k 4), .ref (gL g 45), .ref (gL g 46), .ref (gL g 47), .ref (gL g 48), .ref (gL g 49), .ref (gL g 50), .ref (gL g 51), .ref (gL g 52), .ref (gL g 53), .ref (gL g 54), .ref (gL g 55), .ref (gL g 56), .ref (gL g 57), .int (hI σ k 18), .int (hI σ k 19), .int (hI σ k 20), .int (hI σ k 21), .int (hI σ k 22), .ref (gL g 63), .ref (gL g 64), .ref (gL g 65), .ref (gL g 66), .ref (gL g 67), .long (hJ σ k 28), .ref (gL g 69), .ref (gL g 70), .int (hI σ k 31), .int (hI σ k 32), .ref (gL g 73), .ref (gL g 74), .ref (gL g 75), .int (hI σ k 36), .int (hI σ k 37)] : List Value).set 18 (.int v)) := by rw [cell_8 h]; simp [sI, hI_rowI, hJ_rowI, hR_rowI, va_up]
theorem st8_19 {g : tG} {P : Nat → Nat} {σ : Hp} {k : Nat} {v : Int32} (h : ky k = 8) : cellX g P (sI σ k 19 v) k = .inr (11, ([.int (hI σ k 0), .int (hI σ k 1), .int (hI σ k 2), .int (hI σ k 3), .int (hI σ k 4), .ref (gL g 45), .ref (gL g 46), .ref (gL g 47), .ref (gL g 48), .ref (gL g 49), .ref (gL g 50), .ref (gL g 51), .ref (gL g 52), .ref (gL g 53), .ref (gL g 54), .ref (gL g 55), .ref (gL g 56), .ref (gL g 57), .int (hI σ k 18), .int (hI σ k 19), .int (hI σ k 20), .int (hI σ k 21), .int (hI σ k 22), .ref (gL g 63), .ref (gL g 64), .ref (gL g 65), .ref (gL g 66), .ref (gL g 67), .long (hJ σ k 28), .ref (gL g 69), .ref (gL g 70), .int (hI σ k 31), .int (hI σ k 32), .ref (gL g 73), .ref (gL g 74), .ref (gL g 75), .int (hI σ k 36), .int (hI σ k 37)] : List Value).set 19 (.int v)) := by rw [cell_8 h]; simp [sI, hI_rowI, hJ_rowI, hR_rowI, va_up]
theorem st8_20 {g : tG} {P : Nat → Nat} {σ : Hp} {k : Nat} {v : Int32} (h : ky k = 8) : cellX g P (sI σ k 20 v) k = .inr (11, ([.int (hI σ k 0), .int (hI σ k 1), .int (hI σ k 2), .int (hI σ k 3), .int (hI σ k 4), .ref (gL g 45), .ref (gL g 46), .ref (gL g 47), .ref (gL g 48), .ref (gL g 49), .ref (gL g 50), .ref (gL g 51), .ref (gL g 52), .ref (gL g 53), .ref (gL g 54), .ref (gL g 55), .ref (gL g 56), .ref (gL g 57), .int (hI σ k 18), .int (hI σ k 19), .int (hI σ k 20), .int (hI σ k 21), .int (hI σ k 22), .ref (gL g 63), .ref (gL g 64), .ref (gL g 65), .ref (gL g 66), .ref (gL g 67), .long (hJ σ k 28), .ref (gL g 69), .ref (gL g 70), .int (hI σ k 31), .int (hI σ k 32), .ref (gL g 73), .ref (gL g 74), .ref (gL g 75), .int (hI σ k 36), .int (hI σ k 37)] : List Value).set 20 (.int v)) := by rw [cell_8 h]; simp [sI, hI_rowI, hJ_rowI, hR_rowI, va_up]
theorem st8_21 {g : tG} {P : Nat → Nat} {σ : Hp} {k : Nat} {v : Int32} (h : ky k = 8) : cellX g P (sI σ k 21 v) k = .inr (11, ([.int (hI σ k 0), .int (hI σ k 1), .int (hI σ k 2), .int (hI σ k 3), .int (hI σ k 4), .ref (gL g 45), .ref (gL g 46), .ref (gL g 47), .ref (gL g 48), .ref (gL g 49), .ref (gL g 50), .ref (gL g 51), .ref (gL g 52), .ref (gL g 53), .ref (gL g 54), .ref (gL g 55), .ref (gL g 56), .ref (gL g 57), .int (hI σ k 18), .int (hI σ k 19), .int (hI σ k 20), .int (hI σ k 21), .int (hI σ k 22), .ref (gL g 63), .ref (gL g 64), .ref (gL g 65), .ref (gL g 66), .ref (gL g 67), .long (hJ σ k 28), .ref (gL g 69), .ref (gL g 70), .int (hI σ k 31), .int (hI σ k 32), .ref (gL g 73), .ref (gL g 74), .ref (gL g 75), .int (hI σ k 36), .int (hI σ k 37)] : List Value).set 21 (.int v)) := by rw [cell_8 h]; simp [sI, hI_rowI, hJ_rowI, hR_rowI, va_up]
theorem st8_22 {g : tG} {P : Nat → Nat} {σ : Hp} {k : Nat} {v : Int32} (h : ky k = 8) : cellX g P (sI σ k 22 v) k = .inr (11, ([.int (hI σ k 0), .int (hI σ k 1), .int (hI σ k 2), .int (hI σ k 3), .int (hI σ k 4), .ref (gL g 45), .ref (gL g 46), .ref (gL g 47), .ref (gL g 48), .ref (gL g 49), .ref (gL g 50), .ref (gL g 51), .ref (gL g 52), .ref (gL g 53), .ref (gL g 54), .ref (gL g 55), .ref (gL g 56), .ref (gL g 57), .int (hI σ k 18), .int (hI σ k 19), .int (hI σ k 20), .int (hI σ k 21), .int (hI σ k 22), .ref (gL g 63), .ref (gL g 64), .ref (gL g 65), .ref (gL g 66), .ref (gL g 67), .long (hJ σ k 28), .ref (gL g 69), .ref (gL g 70), .int (hI σ k 31), .int (hI σ k 32), .ref (gL g 73), .ref (gL g 74), .ref (gL g 75), .int (hI σ k 36), .int (hI σ k 37)] : List Value).set 22 (.int v)) := by rw [cell_8 h]; simp [sI, hI_rowI, hJ_rowI, hR_rowI, va_up]
theorem st8_28J {g : tG} {P : Nat → Nat} {σ : Hp} {k : Nat} {v : Int64} (h : ky k = 8) : cellX g P (sJ σ k 28 v) k = .inr (11, ([.int (hI σ k 0), .int (hI σ k 1), .int (hI σ k 2), .int (hI σ k 3), .int (hI σ k 4), .ref (gL g 45), .ref (gL g 46), .ref (gL g 47), .ref (gL g 48), .ref (gL g 49), .ref (gL g 50), .ref (gL g 51), .ref (gL g 52), .ref (gL g 53), .ref (gL g 54), .ref (gL g 55), .ref (gL g 56), .ref (gL g 57), .int (hI σ k 18), .int (hI σ k 19), .int (hI σ k 20), .int (hI σ k 21), .int (hI σ k 22), .ref (gL g 63), .ref (gL g 64), .ref (gL g 65), .ref (gL g 66), .ref (gL g 67), .long (hJ σ k 28), .ref (gL g 69), .ref (gL g 70), .int (hI σ k 31), .int (hI σ k 32), .ref (gL g 73), .ref (gL g 74), .ref (gL g 75), .int (hI σ k 36), .int (hI σ k 37)] : List Value).set 28 (.long v)) := by rw [cell_8 h]; simp [sJ, hI_rowJ, hJ_rowJ, hR_rowJ, va_up]
theorem st8_31 {g : tG} {P : Nat → Nat} {σ : Hp} {k : Nat} {v : Int32} (h : ky k = 8) : cellX g P (sI σ k 31 v) k = .inr (11, ([.int (hI σ k 0), .int (hI σ k 1), .int (hI σ k 2), .int (hI σ k 3), .int (hI σ k 4), .ref (gL g 45), .ref (gL g 46), .ref (gL g 47), .ref (gL g 48), .ref (gL g 49), .ref (gL g 50), .ref (gL g 51), .ref (gL g 52), .ref (gL g 53), .ref (gL g 54), .ref (gL g 55), .ref (gL g 56), .ref (gL g 57), .int (hI σ k 18), .int (hI σ k 19), .int (hI σ k 20), .int (hI σ k 21), .int (hI σ k 22), .ref (gL g 63), .ref (gL g 64), .ref (gL g 65), .ref (gL g 66), .ref (gL g 67), .long (hJ σ k 28), .ref (gL g 69), .ref (gL g 70), .int (hI σ k 31), .int (hI σ k 32), .ref (gL g 73), .ref (gL g 74), .ref (gL g 75), .int (hI σ k 36), .int (hI σ k 37)] : List Value).set 31 (.int v)) := by rw [cell_8 h]; simp [sI, hI_rowI, hJ_rowI, hR_rowI, va_up]
theorem st8_32 {g : tG} {P : Nat → Nat} {σ : Hp} {k : Nat} {v : Int32} (h : ky k = 8) : cellX g P (sI σ k 32 v) k = .inr (11, ([.int (hI σ k 0), .int (hI σ k 1), .int (hI σ k 2), .int (hI σ k 3), .int (hI σ k 4), .ref (gL g 45), .ref (gL g 46), .ref (gL g 47), .ref (gL g 48), .ref (gL g 49), .ref (gL g 50), .ref (gL g 51), .ref (gL g 52), .ref (gL g 53), .ref (gL g 54), .ref (gL g 55), .ref (gL g 56), .ref (gL g 57), .int (hI σ k 18), .int (hI σ k 19), .int (hI σ k 20), .int (hI σ k 21), .int (hI σ k 22), .ref (gL g 63), .ref (gL g 64), .ref (gL g 65), .ref (gL g 66), .ref (gL g 67), .long (hJ σ k 28), .ref (gL g 69), .ref (gL g 70), .int (hI σ k 31), .int (hI σ k 32), .ref (gL g 73), .ref (gL g 74), .ref (gL g 75), .int (hI σ k 36), .int (hI σ k 37)] : List Value).set 32 (.int v)) := by rw [cell_8 h]; simp [sI, hI_rowI, hJ_rowI, hR_rowI, va_up]
theorem st8_36 {g : tG} {P : Nat → Nat} {σ : Hp} {k : Nat} {v : Int32} (h : ky k = 8) : cellX g P (sI σ k 36 v) k = .inr (11, ([.int (hI σ k 0), .int (hI σ k 1), .int (hI σ k 2), .int (hI σ k 3), .int (hI σ k 4), .ref (gL g 45), .ref (gL g 46), .ref (gL g 47), .ref (gL g 48), .ref (gL g 49), .ref (gL g 50), .ref (gL g 51), .ref (gL g 52), .ref (gL g 53), .ref (gL g 54), .ref (gL g 55), .ref (gL g 56), .ref (gL g 57), .int (hI σ k 18), .int (hI σ k 19), .int (hI σ k 20), .int (hI σ k 21), .int (hI σ k 22), .ref (gL g 63), .ref (gL g 64), .ref (gL g 65), .ref (gL g 66), .ref (gL g 67), .long (hJ σ k 28), .ref (gL g 69), .ref (gL g 70), .int (hI σ k 31), .int (hI σ k 32), .ref (gL g 73), .ref (gL g 74), .ref (gL g 75), .int (hI σ k 36), .int (hI σ k 37)] : List Value).set 36 (.int v)) := by rw [cell_8 h]; simp [sI, hI_rowI, hJ_rowI, hR_rowI, va_up]
theorem st8_37 {g : tG} {P : Nat → Nat} {σ : Hp} {k : Nat} {v : Int32} (h : ky k = 8) : cellX g P (sI σ k 37 v) k = .inr (11, ([.int (hI σ k 0), .int (hI σ k 1), .int (hI σ k 2), .int (hI σ k 3), .int (hI σ k 4), .ref (gL g 45), .ref (gL g 46), .ref (gL g 47), .ref (gL g 48), .ref (gL g 49), .ref (gL g 50), .ref (gL g 51), .ref (gL g 52), .ref (gL g 53), .ref (gL g 54), .ref (gL g 55), .ref (gL g 56), .ref (gL g 57), .int (hI σ k 18), .int (hI σ k 19), .int (hI σ k 20), .int (hI σ k 21), .int (hI σ k 22), .ref (gL g 63), .ref (gL g 64), .ref (gL g 65), .ref (gL g 66), .ref (gL g 67), .long (hJ σ k 28), .ref (gL g 69), .ref (gL g 70), .int (hI σ k 31), .int (hI σ k 32), .ref (gL g 73), .ref (gL g 74), .ref (gL g 75), .int (hI σ k 36), .int (hI σ k 37)] : List Value).set 37 (.int v)) := by rw [cell_8 h]; simp [sI, hI_rowI, hJ_rowI, hR_rowI, va_up]
theorem cs_n {β : Type} {x : Option β} {k : Nat → Option β} {r : β} (h : cs none x k = some r) : x = some r := h
theorem cs_s {β : Type} {a : Nat} {x : Option β} {k : Nat → Option β} {r : β} (h : cs (some a) x k = some r) : k a = some r := h
theorem itk_inr {α β : Type} {step : α → Option (α ⊕ β)} {k : Nat} {b b' : β} (h : itk step k b (.inr b')) : b' = b := h
theorem sw_out {x : Int32} {lo hi : Int} (h1 : -2147483648 ≤ lo) (h2 : hi < 2147483648) (h : ∀ k : Int, lo ≤ k → k ≤ hi → ¬ x = Int32.ofInt k) : x.toInt < lo ∨ hi < x.toInt := by
  by_cases ha : x.toInt < lo
  · exact Or.inl ha
  · by_cases hb : hi < x.toInt
    · exact Or.inr hb
    · exact absurd (Int32.ofInt_toInt x).symm (h x.toInt (by omega) (by omega))
def isB (x : Int32) : Bool := decide (x = 0 ∨ x = 1)
theorem isB_eq {x : Int32} (h : isB x = true) : narrow .boolean (.int x) = .int x := by
  rcases (of_decide_eq_true h : x = 0 ∨ x = 1) with rfl | rfl <;> rfl
def isCh (x : Int32) : Bool := decide ((x.toUInt32 % 65536).toInt32 = x)
theorem isCh_eq {x : Int32} (h : isCh x = true) : narrow .char (.int x) = .int x := by
  have e : (x.toUInt32 % 65536).toInt32 = x := of_decide_eq_true h
  rw [← e]
  exact pk_nc x
def okLaw (σ : Hp) (o : Option Nat) : Bool := match o with
  | none => true
  | some j => isLaw σ j
def okCopy (sp dp n : Int32) (n0 n1 : Nat) : Bool := decide (¬ sp < 0 ∧ ¬ dp < 0 ∧ ¬ n < 0 ∧ sp.toNatClampNeg + n.toNatClampNeg ≤ n0 ∧ dp.toNatClampNeg + n.toNatClampNeg ≤ n1)
section TR3
variable {p : Program} {l : Launch} {e : Env} {R : Room} {s : State} {m : MethodId} {args : Array Value} {below : List Frame} {meth : Method} {c : Code} {H : Heap} {locs : List Loc} {cells slots : Nat} {Q : State → Prop}
variable {cc : ByteArray} {pc : Nat} {ls : Array Slot} {rest : List Value} {g : tG} {P : Nat → Nat} {σ : Hp} {A : Nat → Prop} {H0 : Heap}
theorem R_runSN {own host : String} {index nL maxL n mc ms : Nat} {y : MethodName} {bytes : ByteArray} {ret : Option FieldType} {Ts : List Cond} {rm : Room} {As st0 : List Value} {B : State → Prop} {v : Option Value} {A1 : Nat → Prop} {free : Addr → Prop} (S : CallFix p m c cc nL s args Ts own) (hG : ∀ w ∈ tblG, w ∈ Ts)
    (hK : tK g s) (hZ : tZ g A s s.heap) (hA : ∀ q, s.heap.size ≤ q → A q) (hB : tB g P σ A s.heap H locs)
    (hM : Met l y (Cond.code y bytes maxL ret :: tblG) rm (va_Pc As (tPre g P σ H.size)) (tQ v B A1) mc ms free) (hw : Cond.code y bytes maxL ret ∈ tblG) (hl : va_Nw (.methodLinkNest own index y host) s) (hs : Cond.static y ∈ tblG) (hi : Cond.initialized y.cls ∈ tblG)
    (hd : y.cls ≠ "java/lang/invoke/MethodHandle" ∧ y.cls ≠ "java/lang/invoke/VarHandle" ∧ (parseMethodDescriptor y.desc).map (fun d => d.parameters.length) = some n) (hrc : rm.cells = mc) (hrs : rm.slots = ms) (hR : rm.frames + 1 ≤ R.frames ∧ 8 + (maxL + 11) + rm.locals ≤ R.locals)
    (hn : As.length = n) (hsize : ls.size = nL) (hst : st0 = As.reverse ++ rest) (hW : (rest.map fun v => v.category).sum ≤ 8) (hdg : decode cc pc = .ok (.invokestatic index, 3)) (hf : cells + mc ≤ R.cells ∧ slots + ms ≤ R.slots) :
    va_Run p l e R s m args below meth c H locs cells slots mc ms (F0 m pc ls st0) rest (tQ v B A1 As.toArray) free := by
  have ok : ∀ w ∈ tblG, w.before args s = true := fun w h => S.2.2.2.2 w (hG w h)
  exact va_runSN S hM ⟨va_cnB n S.2.2.2.2 (tblG_good hG hw) rfl hrc hrs hl (ok _ hi) hd hR, ok _ hs, trivial⟩ ⟨tPre_blind, fun U hU hWu => ⟨rfl, tPre_of hK hZ hA hB U hU hWu⟩⟩ rfl hn hsize hst (lv_room hW) hdg hf
theorem R_copy (hx : p.tables.exec = Jvm.exec) (hb : c.code = cc) (hml : c.maxLocals = ls.size) {own : String} {index : Nat} (hown : s.vm.findClass own = some m.cls) (hlink : (Cond.methodLink own index arraycopyName).before args s = true) (hnat : (Cond.native arraycopyName).before args s = true) (hstat : (Cond.static arraycopyName).before args s = true) (hini : (Cond.initialized "java/lang/System").before args s = true)
    (hK : tK g s) (hB : tB g P σ A H0 H locs) {k0 k1 : Nat} (h0 : ky k0 = 4) (h1 : ky k1 = 4) {n0 n1 : Nat} (e0 : ln k0 = n0) (e1 : ln k1 = n1) (hframes : 1 ≤ R.frames) (hlocals : (rest.map fun v => v.category).sum + (nativeFrameWords "java/lang/System" "arraycopy" 5 + 11) ≤ R.locals) {sp dp n : Int32} (hok : okCopy sp dp n n0 n1 = true) (hdg : decode cc pc = .ok (.invokestatic index, 3))
    (kk : ∀ (H1 : Heap) (locs1 : List Loc), tB g P (rowJ σ k1 (va_cpy (hJ σ k0) (hJ σ k1) sp.toNatClampNeg dp.toNatClampNeg n.toNatClampNeg)) A H0 H1 locs1 → W p l e R s m args below meth c H1 locs1 cells slots Q (F0 m (pc + 3) ls rest)) : W p l e R s m args below meth c H locs cells slots Q (F0 m pc ls (.int n :: .int dp :: .ref (gL g k1) :: .int sp :: .ref (gL g k0) :: rest)) := by
  obtain ⟨c1, c2, c3, c4, c5⟩ := of_decide_eq_true hok
  have hk1 := ky_in k1 (by rw [h1]; decide)
  obtain ⟨q0, hq0⟩ := wC_get (g := g) (P := P) (σ := σ) (ky_in k0 (by rw [h0]; decide))
  obtain ⟨q1, hq1⟩ := wC_get (g := g) (P := P) (σ := σ) hk1
  rw [cell_4 h0] at hq0
  rw [cell_4 h1] at hq1
  refine va_copyl hx hb hml hown hlink hnat hstat hini hK.1 hB.1 hB.2.1 hB.2.2 q0 q1 1 1 hq0 hq1 rfl rfl rfl c1 c2 c3 (by rw [e0]; exact c4) (by rw [e1]; exact c5) (fun _ _ => rfl) hframes hlocals hdg (fun H1 locs1 hP hD hS => kk H1 locs1 ?_)
  rw [wC_setJ (f := va_cpy (hJ σ k0) (hJ σ k1) sp.toNatClampNeg dp.toNatClampNeg n.toNatClampNeg) hk1 hB.2.1 hq1 (by rw [cell_4 h1, hJ_rowJ, if_pos rfl])] at hP hD
  exact ⟨hP, hD, hS⟩
theorem R_aast (hx : p.tables.exec = Jvm.exec) (hb : c.code = cc) {k : Nat} {v : Option Nat} (hK : tK g s) (hB : tB g P σ A H0 H locs) (hk : ky k = 2) {i : Int32} (hin : vp_in i (ln k)) (hv : okLaw σ v = true) (hdg : decode cc pc = .ok (.aastore, 1))
    (kk : ∀ (H1 : Heap) (locs1 : List Loc), tB g P (sR σ k i.toNatClampNeg v) A H0 H1 locs1 → W p l e R s m args below meth c H1 locs1 cells slots Q (F0 m (pc + 1) ls rest)) : W p l e R s m args below meth c H locs cells slots Q (F0 m pc ls (va_rf (Option.map P v) :: .int i :: .ref (gL g k) :: rest)) := by
  have hkk := ky_in k (by rw [hk]; decide)
  obtain ⟨q0, hq⟩ := wC_get (g := g) (P := P) (σ := σ) hkk
  rw [cell_2 hk] at hq
  have hset : cellX g P (rowR σ k (va_up (hR σ k) i.toNatClampNeg v)) k = .inl (gC g 2, ln k, .inr (.inr (.inr (.inr (va_up (fun i => (hR σ k i).map P) i.toNatClampNeg (v.map P)))))) := by
    have hf : (fun q => (va_up (hR σ k) i.toNatClampNeg v q).map P) = va_up (fun q => (hR σ k q).map P) i.toNatClampNeg (v.map P) := by
      funext j
      simp only [va_up]
      split <;> rfl
    rw [cell_2 hk, hR_rowR, if_pos rfl, hf]
  cases v with
  | none =>
    refine va_astqN hx hb hK.1 hB.1 hB.2.1 hB.2.2 q0 2 hq rfl hin hdg (fun H1 locs1 hP hD hS => kk H1 locs1 ?_)
    rw [wC_setR (f := va_up (hR σ k) i.toNatClampNeg none) (e := .inl (gC g 2, ln k, .inr (.inr (.inr (.inr (va_up (fun i => (hR σ k i).map P) i.toNatClampNeg none)))))) hkk hB.2.1 hq hset] at hP hD
    exact ⟨hP, hD, hS⟩
  | some j =>
    obtain ⟨hlt, hc⟩ := isLaw_eq hv
    obtain ⟨qj, hqj⟩ := wC_getP (g := g) (P := P) (σ := σ) hlt
    unfold poolX at hqj
    have cst : ∀ {C : String}, C ∈ suNm → ∀ comp c0 : ClassId, s.vm.findClass "TurnedAbout$Law" = some comp → s.vm.findClass C = some c0 → s.vm.assignable c0 comp = true := by
      intro C hC comp c0 h1 h2
      obtain ⟨c1, c2, e1, e2, e3⟩ := Cond.castable_spec (hK.2.2.2.1 C hC)
      cases h2.symm.trans e1
      cases h1.symm.trans e2
      exact e3
    have hany : va_Any "TurnedAbout$Law" s H (P j) := by
      rcases hc with h | h | h | h | h | h | h <;> rw [h] at hqj
      · exact va_rAny (r := (RX0, TX0, 2)) hK.1 hB.1 hqj rfl (cst (by decide))
      · refine va_rAny (r := (RX2, TX2, 2)) hK.1 hB.1 hqj rfl (fun comp c0 h1 h2 => ?_)
        cases h2.symm.trans h1
        exact va_asg _ _
      · exact va_rAny (r := (RX3, TX3, 2)) hK.1 hB.1 hqj rfl (cst (by decide))
      · exact va_rAny (r := (RX6, TX6, 2)) hK.1 hB.1 hqj rfl (cst (by decide))
      · exact va_rAny (r := (RX8, TX8, 2)) hK.1 hB.1 hqj rfl (cst (by decide))
      · exact va_rAny (r := (RX9, TX9, 2)) hK.1 hB.1 hqj rfl (cst (by decide))
      · exact va_rAny (r := (RX10, TX10, 2)) hK.1 hB.1 hqj rfl (cst (by decide))
    refine va_astqM hx hb hK.1 hB.1 hB.2.1 hB.2.2 q0 2 hq rfl hany hin hdg (fun H1 locs1 hP hD hS => kk H1 locs1 ?_)
    rw [wC_setR (f := va_up (hR σ k) i.toNatClampNeg (some j)) (e := .inl (gC g 2, ln k, .inr (.inr (.inr (.inr (va_up (fun i => (hR σ k i).map P) i.toNatClampNeg (some (P j))))))))  hkk hB.2.1 hq hset] at hP hD
    exact ⟨hP, hD, hS⟩
theorem ti_ne {x : Int32} {k : Int} (h : ¬ x = Int32.ofInt k) : ¬ x.toInt = k := fun e => h (by rw [← e]; exact (Int32.ofInt_toInt x).symm)
theorem lk_def {x : Int32} : ∀ (ps : List (Int × Int)) (d : Int), (∀ q ∈ ps, ¬ x.toInt = q.1) → Op.lookupswitch.offset ps d x.toInt = d
  | [], _, _ => rfl
  | (a, o) :: r, d, h => by
    rw [Op.lookupswitch.offset_cons, if_neg (fun e => h (a, o) List.mem_cons_self e.symm)]
    exact lk_def r d (fun q hq => h q (List.mem_cons_of_mem _ hq))
end TR3
section TR4
variable {p : Program} {l : Launch} {e : Env} {R : Room} {s : State} {m : MethodId} {args : Array Value} {below : List Frame} {meth : Method} {c : Code} {H : Heap} {locs : List Loc} {cells slots : Nat} {Q : State → Prop}
variable {pc : Nat} {ls : Array Slot} {rest : List Value} {g : tG} {P : Nat → Nat} {σ : Hp} {A : Nat → Prop}
/-- super.m(..) where the superclass itself inherits m: from its own superclass -/
theorem R_runSU2 {own owner : String} {index nL maxL n mc ms j : Nat} {x : MethodName} {bytes cc : ByteArray} {ret : Option FieldType} {rm : Room} {As st0 : List Value} {B : State → Prop} {v : Option Value} {A1 : Nat → Prop} {free : Addr → Prop} {r : vw_C} (S : CallFix p m c cc nL s args tblG own)
    (hK : tK g s) (hZ : tZ g A s s.heap) (hA : ∀ q, s.heap.size ≤ q → A q) (hB : tB g P σ A s.heap H locs)
    (hM : Met l ⟨owner, x.name, x.desc⟩ (Cond.code ⟨owner, x.name, x.desc⟩ bytes maxL ret :: tblG) rm (va_Pc (.ref (P j) :: As) (tPre g P σ H.size)) (tQ v B A1) mc ms free) (hj : j < hN σ) (hc : vwCl[hC σ j]? = some r) (hw : Cond.code ⟨owner, x.name, x.desc⟩ bytes maxL ret ∈ tblG) (hl : Cond.methodLink own index x ∈ tblG) (hsm : Cond.sameMethod x.cls owner x.name x.desc ∈ tblG) (hsp : Cond.superclass own x.cls ∈ tblG) (hsp2 : Cond.superclass x.cls owner ∈ tblG) (hs : Cond.instanceMethod ⟨owner, x.name, x.desc⟩ ∈ tblG) (hi : Cond.initialized owner ∈ tblG)
    (hd : x.name ≠ "<init>" ∧ (parseMethodDescriptor x.desc).map (fun d => d.parameters.length) = some n) (hrc : rm.cells = mc) (hrs : rm.slots = ms) (hR : rm.frames + 1 ≤ R.frames ∧ 8 + (maxL + 11) + rm.locals ≤ R.locals)
    (hn : As.length = n) (hsize : ls.size = nL) (hst : st0 = As.reverse ++ .ref (P j) :: rest) (hW : (rest.map fun v => v.category).sum ≤ 8) (hdg : decode cc pc = .ok (.invokespecial index, 3)) (hf : cells + mc ≤ R.cells ∧ slots + ms ≤ R.slots) :
    va_Run p l e R s m args below meth c H locs cells slots mc ms (F0 m pc ls st0) rest (tQ v B A1 (Value.ref (P j) :: As).toArray) free := by
  have ok : ∀ w ∈ tblG, w.before args s = true := S.2.2.2.2
  have hGd := tblG_good (fun _ h => h) hw
  have hini := ok _ hi
  have hKb : Back l R p e below s args ⟨owner, x.name, x.desc⟩ 3 8 (PreOf R mc ms (va_Pc (.ref (P j) :: As) (tPre g P σ H.size))) (PostOf (tQ v B A1) mc ms free) := back_of (bytes := bytes) (maxL := maxL) (ret := ret) hM tPre_blind hrc hrs hR.1 hR.2 (pay_in ok hGd) List.mem_cons_self (fun a' U hW => word_at hW (Or.inl (by first | rfl | simp [Cond.onTables, Cond.keeps, Cond.steady])) hini)
  obtain ⟨hx, hb, hml, ho, -⟩ := S
  obtain ⟨cellB, hcB, hoB, hclB⟩ := R_recvP hK hB hj hc
  obtain ⟨-, kB, hkB, -⟩ := (hK.1.1 _ _ hc).2
  have hkB' : s.vm.classes[cellB.cls]? = some kB := by
    have e1 := (hK.1.1 _ _ hc).2.1
    have e2 := Option.some.inj (e1.symm.trans hclB)
    rw [← e2]
    exact hkB
  obtain ⟨mk, methM, hnamed, hmethM, hstM, habM⟩ := Cond.instanceMethod_spec (ok _ hs)
  obtain ⟨methM', cM, hmethM', -, -, -, -, -, -, hsigM⟩ := Cond.code_spec hnamed (ok _ hw)
  cases hmethM.symm.trans hmethM'
  obtain ⟨ps, dk, kp, hps, hdk, hkp, hsuper, -, -, hnid⟩ := Cond.superclass_spec ho (ok _ hsp)
  obtain ⟨pl, dk2, kp2, hpl, hdk2, hkp2, hsuper2, -, -, -⟩ := Cond.superclass_spec hps (ok _ hsp2)
  have hpm : pl = mk.cls := Option.some.inj (hpl.symm.trans (findClass_of_methodNamed hnamed))
  have hz : 0 < s.vm.classes.size := by
    have := (Array.getElem?_eq_some_iff.mp hkp2).1
    omega
  have hsub : s.vm.isSubclass ps mk.cls = true := by
    rw [← hpm]
    obtain ⟨z, hz⟩ : ∃ z, s.vm.classes.size = z + 1 := ⟨s.vm.classes.size - 1, by omega⟩
    simp only [Vm.isSubclass, hz, Vm.isSubclassAux, hdk2, hsuper2, beq_self_eq_true, Bool.true_or, Bool.or_true]
  have hlen : As.length = methM.sig.parameters.length := by
    have h2 := hd.2
    rw [show parseMethodDescriptor x.desc = some methM.sig from hsigM] at h2
    rw [hn]
    exact (Option.some.inj h2).symm
  intro T hT X
  obtain ⟨vm₁, X₁, hstep₁⟩ := X.invokespecialUp hx ho (ok _ hl) (ok _ hsm) (r0 := mk) hnamed hmethM hstM habM hd.1 hdk hnid hps hsuper hsub (a := P j) (cell := cellB) (by rw [hT]; exact hcB) (fun z h => by rw [h] at hoB; cases hoB) hkB' (g := F0 m pc ls st0) rfl (argsL := As) (rest := rest) hlen hst (by rw [hb]; exact hdg)
  obtain ⟨v', ⟨U', l2, c2, s2⟩, X', ⟨g', mk', t, L, e1, e2, hq, h1, hL, h2, h3⟩, hsteps⟩ := hKb m meth c ⟨T.setVm vm₁, locs, cells, slots⟩ (F0 m pc ls rest) (.invokespecial index) mk (Value.ref (P j) :: As).toArray X₁ rfl (hsize.trans hml.symm) (by rw [hb]; exact hdg) (lv_room (pc := pc) hW) (X₁.named hnamed) ⟨hf.1, hf.2, rfl, tPre_of hK hZ hA hB (T.setVm vm₁) hT X₁.warmed⟩
  dsimp only [Pt.U, Pt.locs, Pt.cells, Pt.slots] at X' e1 e2 h1 h2 h3 hsteps
  subst h1; subst h2; subst h3
  exact ⟨v', (T.setVm vm₁).calling g' mk' (Value.ref (P j) :: As).toArray, t, U', L, hT, X', hL, e1, e2, hq, fun target h => hstep₁ _ (by rw [doInvoke_state]; exact hsteps.trans h)⟩
end TR4
