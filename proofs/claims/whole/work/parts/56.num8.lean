def bp (f : Nat → Nat) (j : Nat) : Nat → Nat := if f j ≤ f (j + 1) then f else fun k => if k = j + 1 then f j else if k = j then f (j + 1) else f k
theorem bp_lt {f : Nat → Nat} {j : Nat} (h : ∀ k, f k < 10) : ∀ k, bp f j k < 10 := by
  intro k
  unfold bp
  by_cases h1 : f j ≤ f (j + 1)
  · rw [if_pos h1]; exact h k
  · rw [if_neg h1]
    show (if k = j + 1 then f j else if k = j then f (j + 1) else f k) < 10
    by_cases h2 : k = j + 1
    · rw [if_pos h2]; exact h j
    · rw [if_neg h2]
      by_cases h3 : k = j
      · rw [if_pos h3]; exact h _
      · rw [if_neg h3]; exact h k
def bpass : Nat → Nat → (Nat → Nat) → Nat → Nat
  | 0, _, f => f
  | m + 1, j, f => bpass m (j + 1) (bp f j)
theorem bpass_lt : ∀ (m j : Nat) (f : Nat → Nat), (∀ k, f k < 10) → ∀ k, bpass m j f k < 10
  | 0, _, f, h => h
  | m + 1, j, f, h => bpass_lt m (j + 1) (bp f j) (bp_lt h)
def bsF (n : Nat) : Nat → Nat → (Nat → Nat) → Nat → Nat
  | 0, _, f => f
  | m + 1, i, f => bsF n m (i + 1) (bpass (n - i - 1) 0 f)
theorem bsF_lt {n : Nat} : ∀ (m i : Nat) (f : Nat → Nat), (∀ k, f k < 10) → ∀ k, bsF n m i f k < 10
  | 0, _, f, h => h
  | m + 1, i, f, h => bsF_lt m (i + 1) _ (bpass_lt _ _ _ h)
theorem m_in {n i : Nat} (hn : n ≤ 63) (hin : i < n) (σ : Hp) : ∀ (m j fu : Nat) (f : Nat → Nat) (F : Nat → Int32), j + m + 1 = n - i → (∀ k, k < n → F k = nI (f k)) → (∀ k, f k < 10) → m < fu → ∃ F' : Nat → Int32, iter (f_X12_ordered_s18 (nI n) (nI i)) fu (nI j, rowI σ 67 F) = some (.inl (nI (i + 1), rowI σ 67 F')) ∧ ∀ k, k < n → F' k = nI (bpass m j f k)
  | 0, j, 0, f, F, _, _, _, hf => by omega
  | m + 1, j, 0, f, F, _, _, _, hf => by omega
  | 0, j, fu + 1, f, F, hj, hF, h10, hf => by
    refine ⟨F, iter_inr ?_, hF⟩
    unfold f_X12_ordered_s18 f_X12_ordered_t18
    simp only
    rw [pk_sub (by omega), show (1 : Int32) = nI 1 from rfl, nI_add, if_pos (by rw [nI_leI (by omega) (by omega)]; omega), nI_add]
    rfl
  | m + 1, j, fu + 1, f, F, hj, hF, h10, hf => by
    have hFj := hF j (by omega)
    have hFj1 := hF (j + 1) (by omega)
    have h1 := h10 j
    have h2 := h10 (j + 1)
    have hs : f_X12_ordered_s18 (nI n) (nI i) (nI j, rowI σ 67 F) = some (.inl (nI (j + 1), rowI σ 67 (if f j ≤ f (j + 1) then F else va_up (va_up F j (nI (f (j + 1)))) (j + 1) (nI (f j))))) := by
      unfold f_X12_ordered_s18 f_X12_ordered_t18 f_X12_ordered_b84
      simp only
      rw [pk_sub (by omega), show (1 : Int32) = nI 1 from rfl, nI_add, if_neg (by rw [nI_leI (by omega) (by omega)]; omega), ck_pos (inb_nI (by omega) (by omega)), ck_pos (inb_nI (by omega) (by omega)), nI_clamp (by omega), nI_clamp (by omega), hI_rowI_k, hFj, hFj1]
      by_cases hle : f j ≤ f (j + 1)
      · rw [if_pos (by rw [nI_leI (by omega) (by omega)]; exact hle), if_pos hle]
      · rw [if_neg (by rw [nI_leI (by omega) (by omega)]; exact hle), if_neg hle]
        unfold sI
        rw [rowI_rowI, hI_rowI_k, hI_rowI_k, rowI_rowI]
    rw [iter_inl hs]
    refine m_in hn hin σ m (j + 1) fu (bp f j) _ (by omega) (fun k hk => ?_) (bp_lt h10) (by omega)
    unfold bp
    by_cases hle : f j ≤ f (j + 1)
    · rw [if_pos hle, if_pos hle]; exact hF k hk
    · rw [if_neg hle, if_neg hle]
      show va_up (va_up F j (nI (f (j + 1)))) (j + 1) (nI (f j)) k = nI (if k = j + 1 then f j else if k = j then f (j + 1) else f k)
      by_cases h2 : k = j + 1
      · subst h2; rw [up_eq, if_pos rfl]
      · rw [up_ne _ _ h2, if_neg h2]
        by_cases h3 : k = j
        · subst h3; rw [up_eq, if_pos rfl]
        · rw [up_ne _ _ h3, if_neg h3]; exact hF k hk
def upF (b : Nat) (f : Nat → Nat) : Nat → Nat → Nat → Nat
  | 0, _, a => a
  | m + 1, i, a => upF b f m (i + 1) (a * b + f i)
theorem m_ud {b n : Nat} (h2 : 2 ≤ b) (h10 : b ≤ 10) (hn : n ≤ 63) {f : Nat → Nat} (hf10 : ∀ k, f k < 10) {σ : Hp} (hσ : hI σ 40 2 = nI b) (hF : ∀ k, k < n → hI σ 67 k = nI (f k)) : ∀ (m i up dn fu : Nat), i + m = n → m < fu → iter (f_X12_ordered_s105 (nI n)) fu (lN up, lN dn, nI i, σ) = some (lN (upF b (fun k => f (n - 1 - k)) m i dn) - lN (upF b f m i up), σ)
  | 0, i, up, dn, 0, _, hf => by omega
  | m + 1, i, up, dn, 0, _, hf => by omega
  | 0, i, up, dn, fu + 1, hi, hf => by
    refine iter_inr ?_
    unfold f_X12_ordered_s105 f_X12_ordered_t105
    simp only
    rw [if_pos (by rw [nI_leI (by omega) (by omega)]; omega)]
    rfl
  | m + 1, i, up, dn, fu + 1, hi, hf => by
    have h1 := hf10 i
    have h3 := hf10 (n - 1 - i)
    refine (iter_inl (a' := (lN (up * b + f i), lN (dn * b + f (n - 1 - i)), nI (i + 1), σ)) ?_).trans (m_ud h2 h10 hn hf10 hσ hF m (i + 1) _ _ fu (by omega) (by omega))
    unfold f_X12_ordered_s105 f_X12_ordered_t105
    simp only
    rw [if_neg (by rw [nI_leI (by omega) (by omega)]; omega), ck_pos (inb_nI (by omega) (by omega)), show (1 : Int32) = nI 1 from rfl, pk_sub (by omega), pk_sub (by omega), ck_pos (inb_nI (by omega) (by omega)), nI_clamp (by omega), nI_clamp (by omega), hF i (by omega), hF _ (by omega), hσ, nI_l (by omega), nI_l (by omega), nI_l (by omega), lN_mul, lN_mul, lN_add, lN_add]
    rw [nI_add]
theorem m_out {b n : Nat} (h2 : 2 ≤ b) (h10 : b ≤ 10) (hn : n ≤ 63) {σ : Hp} (hσ : hI σ 40 2 = nI b) : ∀ (m i fu : Nat) (f : Nat → Nat) (F : Nat → Int32), i + m = n → (∀ k, k < n → F k = nI (f k)) → (∀ k, f k < 10) → m < fu → ∃ F' : Nat → Int32, iter (f_X12_ordered_s9 (nI n)) fu (nI i, rowI σ 67 F) = some (lN (upF b (fun k => bsF n m i f (n - 1 - k)) n 0 0) - lN (upF b (bsF n m i f) n 0 0), rowI σ 67 F')
  | 0, i, 0, f, F, _, _, _, hf => by omega
  | m + 1, i, 0, f, F, _, _, _, hf => by omega
  | 0, i, fu + 1, f, F, hi, hF, hf10, hf => by
    refine ⟨F, iter_inr ?_⟩
    have hσ2 : hI (rowI σ 67 F) 40 2 = nI b := by rw [hI_rowI_n _ _ (by decide)]; exact hσ
    have h := m_ud h2 h10 hn hf10 hσ2 (fun k hk => by rw [hI_rowI_k]; exact hF k hk) n 0 0 0 fuel (by omega) (by unfold fuel; omega)
    unfold f_X12_ordered_s9 f_X12_ordered_t9
    simp only
    rw [if_pos (by rw [nI_leI (by omega) (by omega)]; omega), l0, show (0 : Int32) = nI 0 from rfl, h]
    rfl
  | m + 1, i, fu + 1, f, F, hi, hF, hf10, hf => by
    obtain ⟨F1, g1, g2⟩ := m_in hn (by omega : i < n) σ (n - i - 1) 0 fuel f F (by omega) hF hf10 (by unfold fuel; omega)
    obtain ⟨F', g3⟩ := m_out h2 h10 hn hσ m (i + 1) fu (bpass (n - i - 1) 0 f) F1 (by omega) g2 (bpass_lt _ _ _ hf10) (by omega)
    refine ⟨F', (iter_inl ?_).trans g3⟩
    unfold f_X12_ordered_s9 f_X12_ordered_t9
    simp only
    rw [if_neg (by rw [nI_leI (by omega) (by omega)]; omega)]
    exact g1
theorem m_ordered {b n : Nat} (h2 : 2 ≤ b) (h10 : b ≤ 10) (hn : n < 2 ^ 63) {σ : Hp} (hσ : hI σ 40 2 = nI b) : ∃ F' : Nat → Int32, f_X12_ordered (lN n) σ = some (lN (upF b (fun k => bsF (fg b n).length (fg b n).length 0 (fun j => (fg b n).getD j 0) ((fg b n).length - 1 - k)) (fg b n).length 0 0) - lN (upF b (bsF (fg b n).length (fg b n).length 0 (fun j => (fg b n).getD j 0)) (fg b n).length 0 0), rowI σ 67 F') := by
  obtain ⟨F, g1, g2⟩ := m_figures h2 h10 hn hσ
  have hd : ∀ k, (fg b n).getD k 0 < 10 := by
    intro k
    by_cases hk : k < (fg b n).length
    · exact Nat.lt_of_lt_of_le (fg_lt h2 (getD_mem hk)) h10
    · rw [List.getD_eq_getElem?_getD, List.getElem?_eq_none (by omega)]
      exact (by decide : (0 : Nat) < 10)
  obtain ⟨F', g3⟩ := m_out h2 h10 (fg_len (b := b) (n := n)) hσ (fg b n).length 0 fuel (fun j => (fg b n).getD j 0) F (by omega) g2 hd (by have := fg_len (b := b) (n := n); unfold fuel; omega)
  refine ⟨F', ?_⟩
  unfold f_X12_ordered
  rw [g1, b2_some]
  exact g3
