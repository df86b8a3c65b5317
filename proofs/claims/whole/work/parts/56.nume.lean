/-- law l of the reference: its kind, its figure a, its values, in a base -/
def lawM (σ : Hp) (l kd a b : Nat) (w : Nat → Nat) : Prop := hI σ 46 l = nI kd ∧ hI σ 47 l = nI a ∧ hI σ 40 2 = nI b ∧ (∀ f, f < 10 → hI σ 48 (10 * l + f) = nI (w f)) ∧ kd ≤ 6 ∧ a ≤ 9 ∧ l < 6 ∧ 2 ≤ b ∧ b ≤ 10 ∧ ∀ f, f < 10 → w f ≤ 999
theorem lawM_row {σ : Hp} {l kd a b : Nat} {w : Nat → Nat} {F : Nat → Int32} (h : lawM σ l kd a b w) : lawM (rowI σ 67 F) l kd a b w := by
  unfold lawM at *
  rw [hI_rowI_n _ _ (by decide), hI_rowI_n _ _ (by decide), hI_rowI_n _ _ (by decide), hI_rowI_n _ _ (by decide)]
  exact h
theorem m_nextOf {σ : Hp} {l kd a b n : Nat} {w : Nat → Nat} (h : lawM σ l kd a b w) (hn : n ≤ 999999999999999) : ∃ F : Nat → Int32, f_X12_nextOf (nI l) (lN n) σ = some (oM (nxN kd a b w n), rowI σ 67 F) := by
  have hlw := h
  obtain ⟨hK, hA, hB, hw, hk, ha, hl, h2, h10, hw9⟩ := h
  have hn63 : n < 2 ^ 63 := by omega
  have hr := rvN_le h2 hn63
  have hbn : b * n ≤ 10 * 999999999999999 := Nat.mul_le_mul h10 hn
  have hlt := nxN_lt (kd := kd) (a := a) (w := w) h2 h10 ha hw9 hn
  have hd10 : ∀ d, d ∈ fg b n → d < 10 := fun d hd => Nat.lt_of_lt_of_le (fg_lt h2 hd) h10
  have h63 := fg_len (b := b) (n := n)
  obtain ⟨F, g1, g2⟩ := m_figures (n := n) h2 h10 hn63 hB
  have hF : ∀ j, j < (fg b n).length → hI (rowI σ 67 F) 67 j = nI ((fg b n).getD j 0) := fun j hj => by rw [hI_rowI_k]; exact g2 j hj
  unfold f_X12_nextOf
  rw [ck_pos (inb_nI hl (by omega)), nI_clamp (by omega), hK]
  unfold nxN at hlt ⊢
  rcases (show kd = 0 ∨ kd = 1 ∨ kd = 2 ∨ kd = 3 ∨ kd = 4 ∨ kd = 5 ∨ kd = 6 by omega) with rfl | rfl | rfl | rfl | rfl | rfl | rfl
  · refine ⟨hI σ 67, ?_⟩
    rw [rowI_self, if_pos (show nI 0 = 0 from rfl), m_turnedOf h2 h10 hn63 hB, b2_some, hA, nI_l (by omega), lN_add, lN_add, m_b231 (by omega)]
    rfl
  · refine ⟨hI σ 67, ?_⟩
    rw [rowI_self, if_neg (by decide), if_pos (show nI 1 = 1 from rfl), m_turnedOf h2 h10 hn63 hB, b2_some]
    unfold f_X12_nextOf_b66
    show _ = some (oM (if rvN b n ≤ n then n - rvN b n else rvN b n - n), σ)
    by_cases hc : rvN b n ≤ n
    · rw [if_pos hc, if_pos (by rw [lN_sub hc, l0, lc_GE (by omega) (by omega)]; omega), lN_sub hc, m_b231 (by omega)]
    · rw [if_neg hc, if_neg (lc_neg (by omega) (by omega) (by omega)), l_neg (by omega), m_b231 (by omega)]
  · refine ⟨F, ?_⟩
    rw [if_neg (by decide), if_neg (by decide), if_neg (by decide), if_neg (by decide), g1, b2_some, l0, show (0 : Int32) = nI 0 from rfl]
    have hlt : smA (fun d => d ^ 2) 0 (fg b n) < 2 ^ 62 := hlt
    exact m_sum (g := fun d => d ^ 2) hl h63 hF hd10 hk (Or.inl ⟨rfl, fun d _ => Nat.pow_two d⟩) (by omega) (fg b n).length 0 0 fuel (by omega) (by unfold fuel; omega) rfl
  · obtain ⟨F', g⟩ := m_orderedN (n := n) h2 h10 hn63 hB
    refine ⟨F', ?_⟩
    have hlt : spD b n - spU b n < 2 ^ 62 := hlt
    rw [if_neg (by decide), if_neg (by decide), if_pos (show nI 3 = 3 from rfl), g, b2_some, m_b231 (by omega)]
    rfl
  · refine ⟨F, ?_⟩
    have hlt : prA 1 (fg b n) + a < 2 ^ 62 := hlt
    rw [if_neg (by decide), if_neg (by decide), if_neg (by decide), if_pos (show nI 4 = 4 from rfl), g1, b2_some, show (0 : Int32) = nI 0 from rfl, show (1 : Int64) = lN 1 from rfl]
    exact m_prod hl h63 hF hd10 (by rw [hI_rowI_n _ _ (by decide)]; exact hA) (by omega) (by omega) (fg b n).length 0 1 fuel (by omega) (by unfold fuel; omega) rfl
  · refine ⟨F, ?_⟩
    rw [if_neg (by decide), if_neg (by decide), if_neg (by decide), if_neg (by decide), g1, b2_some, l0, show (0 : Int32) = nI 0 from rfl]
    have hlt : smA w 0 (fg b n) < 2 ^ 62 := hlt
    exact m_sum (g := w) hl h63 hF hd10 hk (Or.inr (Or.inr ⟨by decide, by decide, fun d hd => ⟨by rw [hI_rowI_n _ _ (by decide)]; exact hw d hd, by have := hw9 d hd; omega⟩⟩)) (by omega) (fg b n).length 0 0 fuel (by omega) (by unfold fuel; omega) rfl
  · refine ⟨F, ?_⟩
    rw [if_neg (by decide), if_neg (by decide), if_neg (by decide), if_neg (by decide), g1, b2_some, l0, show (0 : Int32) = nI 0 from rfl]
    have hlt : smA (fun d => d ^ 3) 0 (fg b n) < 2 ^ 62 := hlt
    exact m_sum (g := fun d => d ^ 3) hl h63 hF hd10 hk (Or.inr (Or.inl ⟨rfl, fun d _ => by show d ^ 3 = d * d * d; rw [Nat.pow_succ, Nat.pow_two]⟩)) (by omega) (fg b n).length 0 0 fuel (by omega) (by unfold fuel; omega) rfl
