theorem m_slL {b : Nat} (h2 : 2 ≤ b) (h10 : b ≤ 10) (σ : Hp) (hσ : hI σ 40 2 = nI b) : ∀ (k i fu x y : Nat), x < 2 ^ k → y < 2 ^ k → i + k ≤ 63 → k < fu → iter f_X12_slip_s38 fu (lN x, lN y, nI i, σ) = some (oI (slN b k i x y), σ)
  | 0, i, 0, x, y, _, _, _, hf => by omega
  | k + 1, i, 0, x, y, _, _, _, hf => by omega
  | k, i, fu + 1, x, y, hx, hy, hi, hf => by
    have hx63 : x < 2 ^ 63 := Nat.lt_of_lt_of_le hx (Nat.pow_le_pow_right (by omega) (by omega))
    have hy63 : y < 2 ^ 63 := Nat.lt_of_lt_of_le hy (Nat.pow_le_pow_right (by omega) (by omega))
    by_cases he : x = y
    · have e : slN b k i x y = none := by
        cases k with
        | zero => rfl
        | succ k => show (if x = y then none else _) = none; rw [if_pos he]
      refine iter_inr ?_
      rw [e]
      unfold f_X12_slip_s38 f_X12_slip_t38
      simp only [(lc_EQ hx63 hy63).mpr he, if_true]
      rfl
    · cases k with
      | zero => omega
      | succ k =>
        have hm1 := Nat.mod_lt x (show b > 0 by omega)
        have hm2 := Nat.mod_lt y (show b > 0 by omega)
        by_cases hm : x % b = y % b
        · have e : slN b (k + 1) i x y = slN b k (i + 1) (x / b) (y / b) := by
            show (if x = y then none else if x % b = y % b then slN b k (i + 1) (x / b) (y / b) else some i) = _
            rw [if_neg he, if_pos hm]
          rw [e]
          refine (iter_inl (a' := (lN (x / b), lN (y / b), nI (i + 1), σ)) ?_).trans (m_slL h2 h10 σ hσ k (i + 1) fu (x / b) (y / b) (half_lt h2 hx) (half_lt h2 hy) (by omega) (by omega))
          unfold f_X12_slip_s38 f_X12_slip_t38
          simp only
          rw [if_neg (by rw [lc_EQ hx63 hy63]; exact he), hσ, nI_l (by omega), ck_pos (nb0 h2 h10), pk_lRem hx63 (by omega) (by omega), pk_lRem hy63 (by omega) (by omega), if_pos (by rw [hm]; exact lc_eq), pk_lDiv hx63 (by omega) (by omega), pk_lDiv hy63 (by omega) (by omega), nI_1]
        · have e : slN b (k + 1) i x y = some i := by
            show (if x = y then none else if x % b = y % b then slN b k (i + 1) (x / b) (y / b) else some i) = _
            rw [if_neg he, if_neg hm]
          rw [e]
          refine iter_inr ?_
          unfold f_X12_slip_s38 f_X12_slip_t38
          simp only
          rw [if_neg (by rw [lc_EQ hx63 hy63]; exact he), hσ, nI_l (by omega), ck_pos (nb0 h2 h10), pk_lRem hx63 (by omega) (by omega), pk_lRem hy63 (by omega) (by omega), if_neg (by rw [lc_EQ (by omega) (by omega)]; exact hm)]
          rfl
