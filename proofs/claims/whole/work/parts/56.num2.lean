theorem inb_nI {i n : Nat} (h : i < n) (hn : n < 2 ^ 31) : inb (nI i) n = true := by
  unfold inb
  rw [nI_toInt (by omega)]
  exact decide_eq_true ⟨by omega, by omega⟩
theorem rowI_rowI (σ : Hp) (k : Nat) (f g : Nat → Int32) : rowI (rowI σ k f) k g = rowI σ k g := by
  unfold rowI
  simp only [hI, hJ, hR, hC, hN]
  congr 1
  funext j
  by_cases h : j = k <;> simp [h]
theorem rowI_self (σ : Hp) (k : Nat) : rowI σ k (hI σ k) = σ := by
  obtain ⟨a, b, c, d, e⟩ := σ
  unfold rowI
  simp only [hI, hJ, hR, hC, hN]
  congr 1
  funext j
  by_cases h : j = k <;> simp [h]
theorem hI_rowI_k (σ : Hp) (k : Nat) (f : Nat → Int32) : hI (rowI σ k f) k = f := by rw [hI_rowI, if_pos rfl]
theorem hI_rowI_n (σ : Hp) {k j : Nat} (f : Nat → Int32) (h : j ≠ k) : hI (rowI σ k f) j = hI σ j := by rw [hI_rowI, if_neg h]
theorem up_eq {α : Type} (f : Nat → α) (i : Nat) (v : α) : va_up f i v i = v := by simp [va_up]
theorem up_ne {α : Type} (f : Nat → α) {i j : Nat} (v : α) (h : j ≠ i) : va_up f i v j = f j := by simp [va_up, h]
theorem m_rev {b : Nat} (h2 : 2 ≤ b) (h10 : b ≤ 10) (σ : Hp) (hσ : hI σ 40 2 = nI b) : ∀ (k n a fu : Nat), n < 2 ^ k → k ≤ 63 → k < fu → iter f_X12_turnedOf_s5 fu (lN a, lN n, σ) = some (lN (rvA b a (dgF b k n)), σ)
  | 0, n, a, 0, _, _, hf => by omega
  | k + 1, n, a, 0, _, _, hf => by omega
  | k, n, a, fu + 1, hn, hi, hf => by
    have hn63 : n < 2 ^ 63 := Nat.lt_of_lt_of_le hn (Nat.pow_le_pow_right (by omega) (by omega))
    by_cases h0 : n = 0
    · subst h0
      refine iter_inr ?_
      rw [dgF_0]
      unfold f_X12_turnedOf_s5 f_X12_turnedOf_t5
      rw [if_pos ((lc_LE0 hn63).mpr rfl)]
      rfl
    · cases k with
      | zero => omega
      | succ k =>
        refine (iter_inl (a' := (lN (a * b + n % b), lN (n / b), σ)) ?_).trans ?_
        · unfold f_X12_turnedOf_s5 f_X12_turnedOf_t5
          rw [if_neg (by rw [lc_LE0 hn63]; exact h0), hσ, ck_pos (nI_l0 h2 h10), nI_l (by omega), pk_lRem hn63 (by omega) (by omega), pk_lDiv hn63 (by omega) (by omega), lN_mul, lN_add]
        · rw [dgF_s h0]
          exact m_rev h2 h10 σ hσ k (n / b) (a * b + n % b) fu (half_lt h2 hn) (by omega) (by omega)
theorem m_turnedOf {b n : Nat} (h2 : 2 ≤ b) (h10 : b ≤ 10) (hn : n < 2 ^ 63) {σ : Hp} (hσ : hI σ 40 2 = nI b) : f_X12_turnedOf (lN n) σ = some (lN (rvN b n), σ) :=
  m_rev h2 h10 σ hσ 63 n 0 fuel hn (by omega) (by unfold fuel; omega)
/-- the figures, at least one -/
def fgF (b k n : Nat) : List Nat := n % b :: dgF b k (n / b)
def fg (b n : Nat) : List Nat := fgF b 62 n
theorem m_fig {b : Nat} (h2 : 2 ≤ b) (h10 : b ≤ 10) : ∀ (k n i fu : Nat) (σ : Hp), hI σ 40 2 = nI b → n < 2 ^ (k + 1) → i + k ≤ 62 → k < fu → ∃ F : Nat → Int32, iter f_X12_figures_s5 fu (nI i, lN n, σ) = some (nI (i + (fgF b k n).length), rowI σ 67 F) ∧ (∀ j, j < i → F j = hI σ 67 j) ∧ ∀ j, j < (fgF b k n).length → F (i + j) = nI ((fgF b k n).getD j 0)
  | 0, n, i, 0, _, _, _, _, hf => by omega
  | k + 1, n, i, 0, _, _, _, _, hf => by omega
  | k, n, i, fu + 1, σ, hσ, hn, hi, hf => by
    have hn63 : n < 2 ^ 63 := Nat.lt_of_lt_of_le hn (Nat.pow_le_pow_right (by omega) (by omega))
    have hd63 : n / b < 2 ^ 63 := Nat.lt_of_le_of_lt (Nat.div_le_self _ _) hn63
    have hσ1 : hI (sI σ 67 i (nI (n % b))) 40 2 = nI b := by
      unfold sI
      rw [hI_rowI_n _ _ (by decide)]
      exact hσ
    have hs : f_X12_figures_s5 (nI i, lN n, σ) = if ¬ n / b = 0 then some (.inl (nI (i + 1), lN (n / b), sI σ 67 i (nI (n % b)))) else ex (some (nI (i + 1), sI σ 67 i (nI (n % b)))) := by
      unfold f_X12_figures_s5 f_X12_figures_t5
      simp only [hσ]
      rw [nI_l (by omega), pk_lRem hn63 (by omega) (by omega), lN_i, nI_clamp (by omega), hσ1, nI_l (by omega), pk_lDiv hn63 (by omega) (by omega), nI_1, ck_pos (by rw [show (0 : Int64) = lN 0 from rfl, pk_lEQ (by omega) (by omega)]; omega), ck_pos (inb_nI (by omega) (by omega)), ck_pos (by rw [show (0 : Int64) = lN 0 from rfl, pk_lEQ (by omega) (by omega)]; omega)]
      by_cases h0 : n / b = 0
      · rw [if_neg (by rw [lc_GT0 hd63]; simp [h0]), if_neg (by simp [h0])]
      · rw [if_pos (by rw [lc_GT0 hd63]; exact h0), if_pos h0]
    by_cases h0 : n / b = 0
    · refine ⟨va_up (hI σ 67) i (nI (n % b)), ?_, fun j hj => up_ne _ _ (by omega), fun j hj => ?_⟩
      · refine iter_inr ?_
        rw [hs, if_neg (by simp [h0])]
        unfold fgF
        rw [h0, dgF_0]
        rfl
      · unfold fgF at hj ⊢
        rw [h0, dgF_0] at hj ⊢
        have : j = 0 := by simp at hj; omega
        subst this
        exact up_eq _ _ _
    · cases k with
      | zero => exact absurd (Nat.div_eq_of_lt (by omega)) h0
      | succ k =>
        have e1 : fgF b (k + 1) n = n % b :: fgF b k (n / b) := by
          unfold fgF
          rw [dgF_s h0]
        obtain ⟨F, g1, g2, g3⟩ := m_fig h2 h10 k (n / b) (i + 1) fu (sI σ 67 i (nI (n % b))) hσ1 (half_lt h2 hn) (by omega) (by omega)
        refine ⟨F, ?_, fun j hj => ?_, fun j hj => ?_⟩
        · rw [iter_inl (by rw [hs, if_pos h0]), g1, e1, List.length_cons]
          unfold sI
          rw [rowI_rowI]
          congr 3
          omega
        · rw [g2 j (by omega)]
          unfold sI
          rw [hI_rowI_k, up_ne _ _ (by omega)]
        · rw [e1] at hj ⊢
          cases j with
          | zero =>
            rw [Nat.add_zero, g2 i (by omega)]
            unfold sI
            rw [hI_rowI_k, up_eq]
            rfl
          | succ j =>
            have := g3 j (by simp at hj; omega)
            rw [show i + (j + 1) = i + 1 + j by omega, this]
            rfl
theorem m_figures {b n : Nat} (h2 : 2 ≤ b) (h10 : b ≤ 10) (hn : n < 2 ^ 63) {σ : Hp} (hσ : hI σ 40 2 = nI b) : ∃ F : Nat → Int32, f_X12_figures (lN n) σ = some (nI (fg b n).length, rowI σ 67 F) ∧ ∀ j, j < (fg b n).length → F j = nI ((fg b n).getD j 0) := by
  obtain ⟨F, g1, -, g3⟩ := m_fig h2 h10 62 n 0 fuel σ hσ hn (by omega) (by unfold fuel; omega)
  refine ⟨F, ?_, fun j hj => ?_⟩
  · rw [Nat.zero_add] at g1
    exact g1
  · have := g3 j hj
    rw [Nat.zero_add] at this
    exact this
