/-- a number that a law comes to, or none: above MOST -/
def oM (v : Nat) : Int64 := if v ≤ 999999999999999 then lN v else -1
theorem m_b231 {v : Nat} (hv : v < 2 ^ 63) (σ : Hp) : f_X12_nextOf_b231 (lN v) σ = some (oM v, σ) := by
  unfold f_X12_nextOf_b231 oM
  by_cases h : v ≤ 999999999999999
  · rw [if_pos (by rw [show (999999999999999 : Int64) = lN 999999999999999 from rfl, lc_LE hv (by omega)]; exact h), if_pos h]
  · rw [if_neg (by rw [show (999999999999999 : Int64) = lN 999999999999999 from rfl, lc_LE hv (by omega)]; exact h), if_neg h]
theorem drop_c {l : List Nat} {i : Nat} (h : i < l.length) : l.drop i = l.getD i 0 :: l.drop (i + 1) := by
  rw [List.drop_eq_getElem_cons h, List.getD_eq_getElem?_getD, List.getElem?_eq_getElem h]
  rfl
theorem getD_mem {l : List Nat} {i : Nat} (h : i < l.length) : l.getD i 0 ∈ l := by
  rw [List.getD_eq_getElem?_getD, List.getElem?_eq_getElem h]
  exact List.getElem_mem h
theorem smA_c2 (g : Nat → Nat) (a d : Nat) (l : List Nat) : smA g a (d :: l) = smA g (a + g d) l := by unfold smA; rw [List.foldl_cons]
theorem m_sum {lw kd : Nat} {g : Nat → Nat} {l : List Nat} (hlw : lw < 6) (hn : l.length ≤ 63) {σ : Hp} (hF : ∀ j, j < l.length → hI σ 67 j = nI (l.getD j 0)) (hd : ∀ d, d ∈ l → d < 10) (hk : kd ≤ 6)
    (hg : kd = 2 ∧ (∀ d, d < 10 → g d = d * d) ∨ kd = 6 ∧ (∀ d, d < 10 → g d = d * d * d) ∨ kd ≠ 2 ∧ kd ≠ 6 ∧ ∀ d, d < 10 → hI σ 48 (10 * lw + d) = nI (g d) ∧ g d < 2 ^ 31) {r : Nat} (hr : r < 2 ^ 63) : ∀ (m i a fu : Nat), i + m = l.length → m < fu → smA g a (l.drop i) = r → iter (f_X12_nextOf_s157 (nI lw) (nI kd) (nI l.length)) fu (lN a, nI i, σ) = some (oM r, σ)
  | 0, i, a, 0, _, hf, _ => by omega
  | m + 1, i, a, 0, _, hf, _ => by omega
  | 0, i, a, fu + 1, hi, hf, he => by
    have hi : i = l.length := by omega
    subst hi
    rw [List.drop_length] at he
    have he : a = r := he
    subst he
    refine iter_inr ?_
    unfold f_X12_nextOf_s157 f_X12_nextOf_t157
    rw [if_pos (by rw [nI_leI (by omega) (by omega)]; omega), m_b231 hr]
    rfl
  | m + 1, i, a, fu + 1, hi, hf, he => by
    have hil : i < l.length := by omega
    rw [drop_c hil, smA_c2] at he
    have hd10 := hd _ (getD_mem hil)
    generalize hdd : l.getD i 0 = d at he hd10
    have hFi := hF i hil
    rw [hdd] at hFi
    refine (iter_inl (a' := (lN (a + g d), nI (i + 1), σ)) ?_).trans (m_sum hlw hn hF hd hk hg hr m (i + 1) (a + g d) fu (by omega) (by omega) he)
    unfold f_X12_nextOf_s157 f_X12_nextOf_t157 f_X12_nextOf_b222
    simp only
    rw [if_neg (by rw [nI_leI (by omega) (by omega)]; omega), ck_pos (inb_nI (by omega) (by omega)), nI_clamp (by omega), hFi, nI_1]
    rcases hg with ⟨hk2, hg⟩ | ⟨hk6, hg⟩ | ⟨hk2, hk6, hg⟩
    · subst hk2
      have h81 : d * d ≤ 9 * 9 := Nat.mul_le_mul (by omega) (by omega)
      rw [if_pos (show nI 2 = 2 from rfl), nI_mul, nI_l (by omega), lN_add, hg d hd10]
    · subst hk6
      have h81 : d * d ≤ 9 * 9 := Nat.mul_le_mul (by omega) (by omega)
      have h729 : d * d * d ≤ 9 * 9 * 9 := Nat.mul_le_mul h81 (by omega)
      rw [if_neg (by decide), if_pos (show nI 6 = 6 from rfl), nI_mul, nI_mul, nI_l (by omega), lN_add, hg d hd10]
    · obtain ⟨g1, g2⟩ := hg d hd10
      rw [if_neg (by rw [show (2 : Int32) = nI 2 from rfl, nI_eq (by omega) (by omega)]; exact hk2), if_neg (by rw [show (6 : Int32) = nI 6 from rfl, nI_eq (by omega) (by omega)]; exact hk6), show (10 : Int32) = nI 10 from rfl, nI_mul, nI_add, ck_pos (inb_nI (by omega) (by omega)), nI_clamp (by omega), g1, nI_l g2, lN_add]
theorem prA_c2 (a d : Nat) (l : List Nat) : prA a (d :: l) = prA (a * d) l := by unfold prA; rw [List.foldl_cons]
theorem m_prod {lw pt : Nat} {l : List Nat} (hlw : lw < 6) (hn : l.length ≤ 63) {σ : Hp} (hF : ∀ j, j < l.length → hI σ 67 j = nI (l.getD j 0)) (hd : ∀ d, d ∈ l → d < 10) (hpt : hI σ 47 lw = nI pt) (hpt2 : pt < 2 ^ 31) {r : Nat} (hr : r + pt < 2 ^ 63) : ∀ (m i a fu : Nat), i + m = l.length → m < fu → prA a (l.drop i) = r → iter (f_X12_nextOf_s106 (nI lw) (nI l.length)) fu (lN a, nI i, σ) = some (oM (r + pt), σ)
  | 0, i, a, 0, _, hf, _ => by omega
  | m + 1, i, a, 0, _, hf, _ => by omega
  | 0, i, a, fu + 1, hi, hf, he => by
    have hi : i = l.length := by omega
    subst hi
    rw [List.drop_length] at he
    have he : a = r := he
    subst he
    refine iter_inr ?_
    unfold f_X12_nextOf_s106 f_X12_nextOf_t106
    simp only
    rw [if_pos (by rw [nI_leI (by omega) (by omega)]; omega), ck_pos (inb_nI (by omega) (by omega)), nI_clamp (by omega), hpt, nI_l hpt2, lN_add, m_b231 hr]
    rfl
  | m + 1, i, a, fu + 1, hi, hf, he => by
    have hil : i < l.length := by omega
    rw [drop_c hil, prA_c2] at he
    have hd10 := hd _ (getD_mem hil)
    have hFi := hF i hil
    generalize l.getD i 0 = d at he hd10 hFi
    refine (iter_inl (a' := (lN (a * d), nI (i + 1), σ)) ?_).trans (m_prod hlw hn hF hd hpt hpt2 hr m (i + 1) (a * d) fu (by omega) (by omega) he)
    unfold f_X12_nextOf_s106 f_X12_nextOf_t106
    simp only
    rw [if_neg (by rw [nI_leI (by omega) (by omega)]; omega), ck_pos (inb_nI (by omega) (by omega)), nI_clamp (by omega), hFi, nI_1, nI_l (by omega), lN_mul]
