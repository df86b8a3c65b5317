theorem rowJ_rowJ (σ : Hp) (k : Nat) (f g : Nat → Int64) : rowJ (rowJ σ k f) k g = rowJ σ k g := by
  unfold rowJ
  simp only [hI, hJ, hR, hC, hN]
  congr 2
  funext j
  by_cases h : j = k <;> simp [h]
theorem rowJ_self (σ : Hp) (k : Nat) : rowJ σ k (hJ σ k) = σ := by
  obtain ⟨a, b, c, d, e⟩ := σ
  unfold rowJ
  simp only [hI, hJ, hR, hC, hN]
  congr 2
  funext j
  by_cases h : j = k <;> simp [h]
theorem hJ_rowJ_k (σ : Hp) (k : Nat) (f : Nat → Int64) : hJ (rowJ σ k f) k = f := by rw [hJ_rowJ, if_pos rfl]
theorem hJ_rowJ_n (σ : Hp) {k j : Nat} (f : Nat → Int64) (h : j ≠ k) : hJ (rowJ σ k f) j = hJ σ j := by rw [hJ_rowJ, if_neg h]
theorem rowIJ (σ : Hp) (k k' : Nat) (f : Nat → Int64) (g : Nat → Int32) : rowI (rowJ σ k f) k' g = rowJ (rowI σ k' g) k f := rfl
theorem lawM_rowJ {σ : Hp} {k l kd a b : Nat} {w : Nat → Nat} {F : Nat → Int64} (h : lawM σ l kd a b w) : lawM (rowJ σ k F) l kd a b w := h
theorem m_goeL {l kd a b : Nat} {w : Nat → Nat} : ∀ (k i fu : Nat) (o : Option Nat) (σ : Hp), lawM σ l kd a b w → hJ σ 40 28 = oL o → i + k = 201 → okO o → k < fu → ∃ (F : Nat → Int32) (C : Nat → Int64), iter (f_X12_goesOf_s8 (nI l)) fu (nI i, σ) = some (oI (gs (nxO kd a b w) b k i o), rowJ (rowI σ 67 F) 40 C) ∧ ∀ q, gs (nxO kd a b w) b k i o = some q → i ≤ q ∧ C 28 = oL (goN (nxO kd a b w) (q - i) o)
  | 0, i, 0, o, _, _, _, _, _, hf => by omega
  | k + 1, i, 0, o, _, _, _, _, _, hf => by omega
  | 0, i, fu + 1, o, σ, h, hc, hi, ho, hf => by
    refine ⟨hI σ 67, hJ σ 40, iter_inr ?_, fun q e => by cases e⟩
    unfold f_X12_goesOf_s8 f_X12_goesOf_t8
    simp only
    rw [if_pos (by rw [show (200 : Int32) = nI 200 from rfl, nI_ltI (by omega) (by omega)]; omega), rowI_self, rowJ_self]
    rfl
  | k + 1, i, fu + 1, o, σ, h, hc, hi, ho, hf => by
    have h200 : ¬ (200 : Int32) < nI i := by rw [show (200 : Int32) = nI 200 from rfl, nI_ltI (by omega) (by omega)]; omega
    cases o with
    | none =>
      refine ⟨hI σ 67, hJ σ 40, iter_inr ?_, fun q e => by cases e⟩
      unfold f_X12_goesOf_s8 f_X12_goesOf_t8
      simp only
      rw [if_neg h200, hc, oL_n, if_pos lc_m1m, rowI_self, rowJ_self]
      rfl
    | some n =>
      have hn := ho n rfl
      obtain ⟨hK, hA, hB, hw, hk, ha, hl, h2, h10, hw9⟩ := id h
      by_cases hal : rvN b n = n
      · have e : gs (nxO kd a b w) b (k + 1) i (some n) = some i := by
          show (if rvN b n = n then some i else gs (nxO kd a b w) b k (i + 1) (nxO kd a b w n)) = _
          rw [if_pos hal]
        refine ⟨hI σ 67, hJ σ 40, iter_inr ?_, fun q e2 => ?_⟩
        · unfold f_X12_goesOf_s8 f_X12_goesOf_t8
          simp only
          rw [if_neg h200, hc, oL_s, if_neg (lc_m1 hn), m_isAlike h2 h10 hn hB, b2_some, if_pos hal, if_neg (by decide), rowI_self, rowJ_self, e]
          rfl
        · rw [e] at e2
          cases e2
          exact ⟨Nat.le_refl _, by rw [hc, Nat.sub_self]; rfl⟩
      · have e : gs (nxO kd a b w) b (k + 1) i (some n) = gs (nxO kd a b w) b k (i + 1) (nxO kd a b w n) := by
          show (if rvN b n = n then some i else gs (nxO kd a b w) b k (i + 1) (nxO kd a b w n)) = _
          rw [if_neg hal]
        obtain ⟨F, g1⟩ := m_nextOf h hn
        have hl2 : lawM (sJ (rowI σ 67 F) 40 28 (oL (nxO kd a b w n))) l kd a b w := lawM_rowJ (lawM_row h)
        obtain ⟨F2, C2, g2, g3⟩ := m_goeL k (i + 1) fu (nxO kd a b w n) (sJ (rowI σ 67 F) 40 28 (oL (nxO kd a b w n))) hl2 (by unfold sJ; rw [hJ_rowJ_k, up_eq]) (by omega) okO_nx (by omega)
        refine ⟨F2, C2, (iter_inl (a' := (nI (i + 1), sJ (rowI σ 67 F) 40 28 (oL (nxO kd a b w n)))) ?_).trans ?_, fun q e2 => ?_⟩
        · unfold f_X12_goesOf_s8 f_X12_goesOf_t8
          simp only
          rw [if_neg h200, hc, oL_s, if_neg (lc_m1 hn), m_isAlike h2 h10 hn hB, b2_some, if_neg hal, if_pos rfl, hc, oL_s, g1, b2_some, oL_nx, nI_1]
        · rw [g2, e]
          unfold sJ
          rw [rowIJ, rowJ_rowJ, rowI_rowI]
        · rw [e] at e2
          obtain ⟨g4, g5⟩ := g3 q e2
          refine ⟨by omega, ?_⟩
          rw [g5, show q - i = (q - (i + 1)) + 1 by omega]
          rfl
