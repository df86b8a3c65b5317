/-! what figures tell, in the reference -/
def nmE (x1 : Int64) (x3 x4 x5 : Int32) (σ1 : Hp) : Option (Int32 × Hp) := if x3 = 0 then some (x4, σ1) else (if x3 = 1 then some (x5, σ1) else (if x3 = 2 then b2 (f_X12_isAlike x1 σ1) (fun r_17 s_18 => if r_17 = 0 then some ((0 : Int32), s_18) else some ((1 : Int32), s_18)) else (b2 (f_X12_checkOf x1 σ1) (fun r_21 s_22 => some (r_21, s_22)))))
theorem m_nmL {x1 : Int64} {x3 : Int32} {l : List Nat} (hn : l.length ≤ 63) {σ : Hp} (hF : ∀ j, j < l.length → hI σ 67 j = nI (l.getD j 0)) : ∀ (m i a fu : Nat), i + m = l.length → m < fu → iter (f_X12_numberOf_s44 x1 x3 (nI l.length)) fu (nI a, nI i, σ) = nmE x1 x3 (nI l.length) (nI (smA (fun d => d) a (l.drop i))) σ
  | m, i, a, 0, _, hf => by omega
  | 0, i, a, fu + 1, hi, hf => by
    have hi : i = l.length := by omega
    subst hi
    rw [List.drop_length]
    refine iter_ex ?_
    unfold f_X12_numberOf_s44 f_X12_numberOf_t44
    simp only
    rw [if_pos (by rw [nI_leI (by omega) (by omega)]; omega)]
    rfl
  | m + 1, i, a, fu + 1, hi, hf => by
    refine (iter_inl (a' := (nI (a + l.getD i 0), nI (i + 1), σ)) ?_).trans ((m_nmL hn hF m (i + 1) (a + l.getD i 0) fu (by omega) (by omega)).trans ?_)
    · unfold f_X12_numberOf_s44 f_X12_numberOf_t44
      simp only
      rw [if_neg (by rw [nI_leI (by omega) (by omega)]; omega), ck_pos (inb_nI (by omega) (by omega)), nI_clamp (by omega), hF i (by omega), nI_add, nI_1]
    · rw [drop_c (show i < l.length by omega)]
      rfl
theorem m_ckL {b : Nat} {l : List Nat} (h2 : 2 ≤ b) (h10 : b ≤ 10) (hl : ∀ d, d ∈ l → d < 10) (hn : l.length ≤ 63) {σ : Hp} (hB : hI σ 40 2 = nI b) (hF : ∀ j, j < l.length → hI σ 67 j = nI (l.getD j 0)) : ∀ (m i a fu : Nat), i + m = l.length → a ≤ 576 * i → m < fu → iter (f_X12_checkOf_s12 (nI l.length)) fu (nI a, nI i, σ) = some (nI (ckA a (i + 1) (l.drop i) % b), σ)
  | m, i, a, 0, _, _, hf => by omega
  | 0, i, a, fu + 1, hi, ha, hf => by
    have hi : i = l.length := by omega
    subst hi
    rw [List.drop_length]
    refine iter_ex ?_
    unfold f_X12_checkOf_s12 f_X12_checkOf_t12
    simp only
    rw [if_pos (by rw [nI_leI (by omega) (by omega)]; omega), hB, ck_pos (by rw [show (0 : Int32) = nI 0 from rfl, nI_eq (by omega) (by omega)]; omega), pk_rem (by omega) (by omega) (by omega)]
    rfl
  | m + 1, i, a, fu + 1, hi, ha, hf => by
    have hd : l.getD i 0 ≤ 9 := by have := hl _ (getD_mem (show i < l.length by omega)); omega
    have hm : (i + 1) * l.getD i 0 ≤ 64 * 9 := Nat.mul_le_mul (by omega) hd
    refine (iter_inl (a' := (nI (a + (i + 1) * l.getD i 0), nI (i + 1), σ)) ?_).trans ((m_ckL h2 h10 hl hn hB hF m (i + 1) (a + (i + 1) * l.getD i 0) fu (by omega) (by omega) (by omega)).trans ?_)
    · unfold f_X12_checkOf_s12 f_X12_checkOf_t12
      simp only
      rw [if_neg (by rw [nI_leI (by omega) (by omega)]; omega), ck_pos (inb_nI (by omega) (by omega)), nI_clamp (by omega), hF i (by omega), nI_1, nI_mul, nI_add, Nat.mul_comm (l.getD i 0)]
    · rw [drop_c (show i < l.length by omega)]
      rfl
theorem m_checkOf {b n : Nat} (h2 : 2 ≤ b) (h10 : b ≤ 10) (hn : n < 2 ^ 63) {σ : Hp} (hB : hI σ 40 2 = nI b) : ∃ F, f_X12_checkOf (lN n) σ = some (nI (ckA 0 1 (dg b n) % b), rowI σ 67 F) := by
  obtain ⟨F, g1, g2⟩ := m_figures h2 h10 hn hB
  refine ⟨F, ?_⟩
  have hl := fg_len (b := b) (n := n)
  have hlt : ∀ d, d ∈ fg b n → d < 10 := fun d hd => Nat.lt_of_lt_of_le (fg_lt h2 hd) h10
  unfold f_X12_checkOf
  rw [g1, b2_some]
  have := m_ckL (l := fg b n) h2 h10 hlt hl (σ := rowI σ 67 F) (by rw [hI_rowI_n _ _ (by decide)]; exact hB) (fun j hj => by rw [hI_rowI_k]; exact g2 j hj) (fg b n).length 0 0 fuel (by omega) (by omega) (by unfold fuel; omega)
  refine Eq.trans this ?_
  rw [List.drop_zero]
  by_cases h0 : n = 0
  · subst h0; rw [fg_0, dg_0]; rfl
  · rw [fg_dg h2 hn h0]
theorem sm_fg {b n : Nat} (h2 : 2 ≤ b) (hn : n < 2 ^ 63) : smA (fun d => d) 0 (fg b n) = smA (fun d => d ^ 1) 0 (dg b n) := by
  have e : (fun d : Nat => d ^ 1) = fun d => d := by funext d; exact Nat.pow_one d
  rw [e]
  by_cases h0 : n = 0
  · subst h0; rw [fg_0, dg_0]; rfl
  · rw [fg_dg h2 hn h0]
/-- numberOf's answer -/
def nmV (b n : Nat) (w : Int32) : Int32 := if w = 0 then nI (fg b n).length else if w = 1 then nI (smA (fun d => d ^ 1) 0 (dg b n)) else if w = 2 then (if rvN b n = n then 1 else 0) else nI (ckA 0 1 (dg b n) % b)
theorem x_numberOf {b n w : Nat} (h2 : 2 ≤ b) (h10 : b ≤ 10) (hn : n ≤ 999999999999999) (hw : w ≤ 3) {σ : Hp} (hB : hI σ 1 0 = nI b) (hnum : ∀ σ, f_X11_isNumber (lN n) σ = some (1, σ)) : f_X11_numberOf (lN n) (nI w) σ = some (nmV b n (nI w), σ) := by
  have t1 : f_X1_together (lN n) (nI b) (1 : Int32) σ = some (lN (smA (fun d => d ^ 1) 0 (dg b n)), σ) := x_together h2 h10 (by omega) (Nat.le_refl 1) (by omega) σ
  unfold f_X11_numberOf
  rw [if_neg (by rw [show (0 : Int32) = nI 0 from rfl, nI_ltI (by omega) (by omega)]; omega), if_pos (by rw [show (3 : Int32) = nI 3 from rfl, nI_leI (by omega) (by omega)]; exact hw), hnum, b2_some, if_neg (by decide), hB, x_howMany h2 h10 (by omega), t1, x_isAlike h2 h10 hn hB, x_checkOf h2 h10 (by omega), b2_some, b2_some, b2_some, b2_some, lN_i]
  unfold nmV
  by_cases h0 : nI w = 0
  · rw [if_pos h0, if_pos h0]
  · rw [if_neg h0, if_neg h0]
    by_cases h1 : nI w = 1
    · rw [if_pos h1, if_pos h1]
    · rw [if_neg h1, if_neg h1]
      by_cases h3 : nI w = 2
      · rw [if_pos h3, if_pos h3]
        by_cases c : rvN b n = n
        · rw [if_pos c, if_neg (by decide)]
        · rw [if_neg c, if_pos rfl]
      · rw [if_neg h3, if_neg h3]
theorem m_numberOf {b n w : Nat} (h2 : 2 ≤ b) (h10 : b ≤ 10) (hn : n ≤ 999999999999999) (hw : w ≤ 3) {σ : Hp} (hB : hI σ 40 2 = nI b) (hnum : ∀ σ, f_X12_isNumber (lN n) σ = some (1, σ)) : ∃ τ, f_X12_numberOf (lN n) (nI w) σ = some (nmV b n (nI w), τ) ∧ Fs σ τ := by
  obtain ⟨F, g1, g2⟩ := m_figures h2 h10 (show n < 2 ^ 63 by omega) hB
  have hB1 : hI (rowI σ 67 F) 40 2 = nI b := by rw [hI_rowI_n _ _ (by decide)]; exact hB
  obtain ⟨F2, c1⟩ := m_checkOf h2 h10 (show n < 2 ^ 63 by omega) hB1
  have hl := fg_len (b := b) (n := n)
  have e := m_nmL (x1 := lN n) (x3 := nI w) hl (σ := rowI σ 67 F) (fun j hj => by rw [hI_rowI_k]; exact g2 j hj) (fg b n).length 0 0 fuel (by omega) (by unfold fuel; omega)
  have e2 : f_X12_numberOf (lN n) (nI w) σ = nmE (lN n) (nI w) (nI (fg b n).length) (nI (smA (fun d => d ^ 1) 0 (dg b n))) (rowI σ 67 F) := by
    unfold f_X12_numberOf
    rw [if_neg (by rw [show (0 : Int32) = nI 0 from rfl, nI_ltI (by omega) (by omega)]; omega), if_pos (by rw [show (3 : Int32) = nI 3 from rfl, nI_leI (by omega) (by omega)]; exact hw), hnum, b2_some, if_neg (by decide), g1, b2_some]
    refine Eq.trans e ?_
    rw [List.drop_zero, sm_fg h2 (by omega)]
  rw [e2]
  unfold nmE
  rw [m_isAlike h2 h10 hn hB1, c1, b2_some, b2_some]
  unfold nmV
  by_cases h0 : nI w = 0
  · rw [if_pos h0, if_pos h0]; exact ⟨_, rfl, Fs_67 (Fs_refl σ) F⟩
  · rw [if_neg h0, if_neg h0]
    by_cases h1 : nI w = 1
    · rw [if_pos h1, if_pos h1]; exact ⟨_, rfl, Fs_67 (Fs_refl σ) F⟩
    · rw [if_neg h1, if_neg h1]
      by_cases h3 : nI w = 2
      · rw [if_pos h3, if_pos h3]
        refine ⟨_, ?_, Fs_67 (Fs_refl σ) F⟩
        by_cases c : rvN b n = n
        · rw [if_pos c, if_neg (by decide)]
        · rw [if_neg c, if_pos rfl]
      · rw [if_neg h3, if_neg h3]; exact ⟨_, rfl, Fs_67 (Fs_67 (Fs_refl σ) F) F2⟩
